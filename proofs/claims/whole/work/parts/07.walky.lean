theorem jy_isT {post : Int32 → Prop} {f : Int32} {bi bc br : Nat → Int32} {s : Nat} (hs : s < 4) (h : post 1) : wpY_isSet post (f, bi, bc, br) (nI s) :=
  br_f (nI_pos (by omega)) (br_f (nI_ge (b := 4) hs (by decide)) h)
theorem jy_isF {post : Int32 → Prop} {f : Int32} {bi bc br : Nat → Int32} {v : Int32} (hv : jt_bad v) (h : post 0) : wpY_isSet post (f, bi, bc, br) v := by
  by_cases h0 : v < 0
  · exact br_t h0 h
  · exact br_f h0 (br_t (hv.resolve_left h0) h)
theorem jy_hasL {f : Int32} {bi bc br : Nat → Int32} {s c : Nat} (hs : s < 4) (hc : bc s = nI c) (h20 : c ≤ 20) (x : Int32) (post : Int32 → Prop) (hT : x ∈ jt_sg bi (s * 20) c → post 1) (hF : ¬ x ∈ jt_sg bi (s * 20) c → post 0) :
    ∀ d i, i + d = c → (∀ t, t < i → ¬ bi (s * 20 + t) = x) → wY_has_2 post (nI s) x f bi bc br (d + 1) (nI i) := by
  intro d
  induction d with
  | zero =>
    intro i hi hn
    have e : i = c := by omega
    unfold wY_has_2
    refine jy_isT hs (br_f (by decide) (And.intro (jt_sv hs) (br_t ?_ (hF ?_))))
    · rw [jt_sc hs, hc]
      exact nI_le (by omega) (by omega)
    · intro hx
      obtain ⟨t, h1, h2⟩ := jt_mem.mp hx
      exact hn t (by omega) h2
  | succ d ih =>
    intro i hi hn
    have hb : s * 20 + i < 80 := by omega
    unfold wY_has_2
    refine jy_isT hs (br_f (by decide) (And.intro (jt_sv hs) (br_f ?_ (And.intro (jt_ixv hb) ?_))))
    · rw [jt_sc hs, hc]
      exact nI_ge (by omega) (by omega)
    · rw [jt_ixc hb]
      refine br_c (fun q => hT (jt_mem.mpr ⟨i, by omega, q⟩)) (fun q => nm_r (nI_1 i) (ih (i + 1) (by omega) ?_))
      intro t ht
      by_cases e : t = i
      · rw [e]; exact q
      · exact hn t (by omega)
theorem jy_has {f : Int32} {bi bc br : Nat → Int32} {s c : Nat} (hs : s < 4) (hc : bc s = nI c) (h20 : c ≤ 20) (x : Int32) {post : Int32 → Prop} (hT : x ∈ jt_sg bi (s * 20) c → post 1) (hF : ¬ x ∈ jt_sg bi (s * 20) c → post 0) :
    wpY_has post (f, bi, bc, br) (nI s) x := by
  have h2 := jy_hasL (f := f) (br := br) hs hc h20 x post hT hF c 0 (by omega) (fun t ht => by omega)
  rw [nI_0] at h2
  exact Exists.intro _ h2
theorem jy_hasB {f : Int32} {bi bc br : Nat → Int32} {s c : Nat} (hs : s < 4) (hc : bc s = nI c) (h20 : c ≤ 20) (x : Int32) {post : Int32 → Prop} (h : post (jt_b (jt_has (jt_sg bi (s * 20) c) x))) : wpY_has post (f, bi, bc, br) (nI s) x := by
  refine jy_has hs hc h20 x (fun hx => ?_) (fun hx => ?_)
  · rw [jt_hasi.mpr hx] at h
    exact h
  · rw [jt_hasb (b := false) ⟨fun q => absurd q hx, fun q => absurd q (by decide)⟩] at h
    exact h
theorem jy_hasN {f : Int32} {bi bc br : Nat → Int32} {v x : Int32} (hv : jt_bad v) {post : Int32 → Prop} (h : post 0) : wpY_has post (f, bi, bc, br) v x := by
  refine Exists.intro 1 ?_
  unfold wY_has_2
  exact jy_isF hv (br_t rfl h)
theorem jy_rkL {f : Int32} {bi bc br : Nat → Int32} {s c : Nat} (hs : s < 4) (hc : bc s = nI c) (h20 : c ≤ 20) (x : Int32) (post : Int32 → Prop) (h : post (nI ((jt_sg bi (s * 20) c).countP (jt_l x)))) :
    ∀ d i, i + d = c → wY_rank_15 post (nI s) x f bi bc br (d + 1) (nI ((jt_sg bi (s * 20) i).countP (jt_l x))) (nI i) := by
  intro d
  induction d with
  | zero =>
    intro i hi
    have e : i = c := by omega
    rw [e]
    refine And.intro (jt_sv hs) (br_t ?_ h)
    rw [jt_sc hs, hc]
    exact nI_le (Nat.le_refl _) (by omega)
  | succ d ih =>
    intro i hi
    have hb : s * 20 + i < 80 := by omega
    have h2 := ih (i + 1) (by omega)
    rw [jt_cntS] at h2
    refine And.intro (jt_sv hs) (br_f ?_ (And.intro (jt_ixv hb) ?_))
    · rw [jt_sc hs, hc]
      exact nI_ge (by omega) (by omega)
    · rw [jt_ixc hb]
      by_cases hx : bi (s * 20 + i) < x
      · refine br_f (Int32.not_le.mpr hx) (nm_r (nI_1 _) (nm_r (nI_1 _) ?_))
        rw [if_pos (jt_li.mpr hx)] at h2
        exact h2
      · refine br_t (Int32.not_lt.mp hx) (nm_r (nI_1 _) ?_)
        have hn : ¬ jt_l x (bi (s * 20 + i)) = true := fun q => hx (jt_li.mp q)
        rw [if_neg hn, Nat.add_zero] at h2
        exact h2
theorem jy_rank {f : Int32} {bi bc br : Nat → Int32} {s c : Nat} (hs : s < 4) (hc : bc s = nI c) (h20 : c ≤ 20) (x : Int32) {post : Int32 → Prop} (h : post (nI ((jt_sg bi (s * 20) c).countP (jt_l x)))) : wpY_rank post (f, bi, bc, br) (nI s) x := by
  have h2 := jy_rkL (f := f) (br := br) hs hc h20 x post h c 0 (by omega)
  have e0 : (jt_sg bi (s * 20) 0).countP (jt_l x) = 0 := rfl
  rw [e0, nI_0] at h2
  unfold wpY_rank
  exact jy_isT hs (br_f (by decide) (Exists.intro (c + 1) h2))
theorem jy_rrL {f : Int32} {bi bc br : Nat → Int32} {s c : Nat} (hs : s < 4) (hc : bc s = nI c) (h20 : c ≤ 20) (lo hi : Int32) (post : Int32 → SY → Prop)
    (h : ∀ k b', jt_Flt (jt_out lo hi) (s * 20) c k b' bi → post (nI (c - k)) (f, b', upd bc s (nI k), br)) :
    ∀ d i k b', jt_Flt (jt_out lo hi) (s * 20) i k b' bi → i + d = c → wY_removeRange_16 post (nI s) lo hi f (d + 1) (nI k) (nI i) b' bc br := by
  intro d
  induction d with
  | zero =>
    intro i k b' hI hd
    have e : i = c := by omega
    rw [e] at hI
    have hk := hI.1
    have e1 : bc (nI s).toNatClampNeg - nI k = nI (c - k) := by rw [jt_sc hs, hc, pk_sub hk]
    have e2 : upd bc (nI s).toNatClampNeg (nI k) = upd bc s (nI k) := by rw [jt_sc hs]
    refine And.intro (jt_sv hs) (br_t ?_ (And.intro (jt_sv hs) (nm_r e1 (And.intro (jt_sv hs) (nm_r e2 (h k b' hI))))))
    rw [jt_sc hs, hc]
    exact nI_le (by omega) (by omega)
  | succ d ih =>
    intro i k b' hI hd
    have hk := hI.1
    have hb : s * 20 + i < 80 := by omega
    have e0 : b' (nI s * 20 + nI i).toNatClampNeg = bi (s * 20 + i) := by rw [jt_ixc hb, jt_FltG hI]
    have keep : jt_out lo hi (bi (s * 20 + i)) = true → wY_removeRange_53 post (wY_removeRange_16 post (nI s) lo hi f (d + 1)) (nI s) lo hi (nI k) (nI i) (bi (s * 20 + i)) f b' bc br := by
      intro ho
      have e2 : upd b' (nI s * 20 + nI k).toNatClampNeg (bi (s * 20 + i)) = upd b' (s * 20 + k) (bi (s * 20 + i)) := by rw [jt_ixc (by omega)]
      exact And.intro (jt_ixv (by omega)) (nm_r e2 (nm_r (nI_1 k) (nm_r (nI_1 i) (ih (i + 1) (k + 1) _ (jt_FltT hI ho) (by omega)))))
    refine And.intro (jt_sv hs) (br_f ?_ (And.intro (jt_ixv hb) (nm_r e0 ?_)))
    · rw [jt_sc hs, hc]
      exact nI_ge (by omega) (by omega)
    · refine br_c (fun q => keep (jt_outi.mpr (Or.inl q))) (fun q => br_c (fun w => nm_r (nI_1 i) (ih (i + 1) k b' (jt_FltF hI ?_) (by omega))) (fun w => keep (jt_outi.mpr (Or.inr (Int32.not_le.mp w)))))
      intro ho
      rcases jt_outi.mp ho with g | g
      · exact q g
      · exact Int32.not_le.mpr g w
theorem jy_rr {f : Int32} {bi bc br : Nat → Int32} {s c : Nat} (hs : s < 4) (hc : bc s = nI c) (h20 : c ≤ 20) (lo hi : Int32) {post : Int32 → SY → Prop}
    (h : ∀ k b', jt_Flt (jt_out lo hi) (s * 20) c k b' bi → post (nI (c - k)) (f, b', upd bc s (nI k), br)) : wpY_removeRange post (f, bi, bc, br) (nI s) lo hi := by
  have h2 := jy_rrL hs hc h20 lo hi post h c 0 0 bi (jt_Flt0 _ _ _) (by omega)
  rw [nI_0] at h2
  unfold wpY_removeRange
  exact jy_isT hs (br_f (by decide) (Exists.intro _ h2))
theorem jy_rrN {f : Int32} {bi bc br : Nat → Int32} {v lo hi : Int32} (hv : jt_bad v) {post : Int32 → SY → Prop} (h : post (-1) (f, bi, bc, br)) : wpY_removeRange post (f, bi, bc, br) v lo hi := by
  unfold wpY_removeRange
  exact jy_isF hv (br_t rfl h)
theorem jy_cdL {bi bc br : Nat → Int32} {f : Nat} (hf : f ≤ 40) (x : Int32) (post : Int32 → Prop) (hT : x ∈ jt_sg br 0 f → post 1) (hF : ¬ x ∈ jt_sg br 0 f → post 0) :
    ∀ d i, i + d = f → (∀ t, t < i → ¬ br t = x) → wY_collected_2 post x (nI f) bi bc br (d + 1) (nI i) := by
  intro d
  induction d with
  | zero =>
    intro i hi hn
    refine br_t (nI_le (by omega) (by omega)) (hF ?_)
    intro hx
    obtain ⟨t, h1, h2⟩ := jt_mem.mp hx
    rw [Nat.zero_add] at h2
    exact hn t (by omega) h2
  | succ d ih =>
    intro i hi hn
    refine br_f (nI_ge (by omega) (by omega)) (And.intro (vp_in_nI (by omega) (by decide)) ?_)
    rw [nI_clamp (by omega)]
    refine br_c (fun q => hT (jt_mem.mpr ⟨i, by omega, by rw [Nat.zero_add]; exact q⟩)) (fun q => nm_r (nI_1 i) (ih (i + 1) (by omega) ?_))
    intro t ht
    by_cases e : t = i
    · rw [e]; exact q
    · exact hn t (by omega)
theorem jy_cd {bi bc br : Nat → Int32} {f : Nat} (hf : f ≤ 40) (x : Int32) {post : Int32 → Prop} (hT : x ∈ jt_sg br 0 f → post 1) (hF : ¬ x ∈ jt_sg br 0 f → post 0) : wpY_collected post (nI f, bi, bc, br) x := by
  have h2 := jy_cdL (bi := bi) (bc := bc) hf x post hT hF f 0 (by omega) (fun t ht => by omega)
  rw [nI_0] at h2
  exact Exists.intro _ h2
theorem jy_bel {post : Int32 → Prop} {f : Int32} {bi bc br : Nat → Int32} (h : Nat) (hh : h < 4) (p q : Bool) (hp : post (jt_b (jt_f h p q))) : wpY_belongs post (f, bi, bc, br) (nI h) (jt_b p) (jt_b q) := by
  have c4 : h = 0 ∨ h = 1 ∨ h = 2 ∨ h = 3 := by omega
  rcases c4 with e | e | e | e <;> subst e <;> cases p <;> cases q <;>
    repeat (first | exact hp | refine br_t (by decide) ?_ | refine br_f (by decide) ?_)
theorem jy_coL {bi bc : Nat → Int32} {g h a b cg ca cb : Nat} (hg : g < 4) (ha : a < 4) (hb : b < 4) (hh : h < 4) (hcg : bc g = nI cg) (hca : bc a = nI ca) (hcb : bc b = nI cb) (lg : cg ≤ 20) (la : ca ≤ 20) (lb : cb ≤ 20) (M0 : List Int32) (hM : M0.length + cg ≤ 40) (post : SY → Prop)
    (hp : ∀ f r, jt_Col (fun z => jt_f h (jt_has (jt_sg bi (a * 20) ca) z) (jt_has (jt_sg bi (b * 20) cb) z)) M0 bi (g * 20) cg f r → post (nI f, bi, bc, r)) :
    ∀ d i f r, jt_Col (fun z => jt_f h (jt_has (jt_sg bi (a * 20) ca) z) (jt_has (jt_sg bi (b * 20) cb) z)) M0 bi (g * 20) i f r → i + d = cg → wY_collect_3 post (nI g) (nI h) (nI a) (nI b) (d + 1) (nI i) (nI f) bi bc r := by
  intro d
  induction d with
  | zero =>
    intro i f r hI hd
    have e : i = cg := by omega
    rw [e] at hI
    refine And.intro (jt_sv hg) (br_t ?_ (hp f r hI))
    rw [jt_sc hg, hcg]
    exact nI_le (by omega) (by omega)
  | succ d ih =>
    intro i f r hI hd
    have hf := hI.1
    have hx : g * 20 + i < 80 := by omega
    have e0 : bi (nI g * 20 + nI i).toNatClampNeg = bi (g * 20 + i) := by rw [jt_ixc hx]
    refine And.intro (jt_sv hg) (br_f ?_ (And.intro (jt_ixv hx) (nm_r e0 (jy_hasB ha hca la _ (jy_hasB hb hcb lb _ (jy_cd (by omega) _ (fun hz => ?_) (fun hz => ?_)))))))
    · rw [jt_sc hg, hcg]
      exact nI_ge (by omega) (by omega)
    · exact br_f (by decide) (nm_r (nI_1 i) (ih (i + 1) f r (jt_ColF hI (Or.inl hz)) (by omega)))
    · refine br_t rfl (jy_bel h hh _ _ ?_)
      cases e : jt_f h (jt_has (jt_sg bi (a * 20) ca) (bi (g * 20 + i))) (jt_has (jt_sg bi (b * 20) cb) (bi (g * 20 + i))) with
      | false =>
        refine br_t (by decide) (nm_r (nI_1 i) (ih (i + 1) f r (jt_ColF hI (Or.inr ?_)) (by omega)))
        intro q
        exact absurd (e.symm.trans q) (by decide)
      | true =>
        have e1 : upd r (nI f).toNatClampNeg (bi (g * 20 + i)) = upd r f (bi (g * 20 + i)) := by rw [nI_clamp (by omega)]
        exact br_f (by decide) (And.intro (vp_in_nI (by omega) (by decide)) (nm_r e1 (nm_r (nI_1 f) (nm_r (nI_1 i) (ih (i + 1) (f + 1) _ (jt_ColT hI hz e) (by omega))))))
theorem jy_co {bi bc r0 : Nat → Int32} {g h a b cg ca cb : Nat} (f0 : Nat) (hg : g < 4) (ha : a < 4) (hb : b < 4) (hh : h < 4) (hcg : bc g = nI cg) (hca : bc a = nI ca) (hcb : bc b = nI cb) (lg : cg ≤ 20) (la : ca ≤ 20) (lb : cb ≤ 20) (hn : (jt_sg r0 0 f0).Nodup) (hM : f0 + cg ≤ 40) {post : SY → Prop}
    (hp : ∀ f r, jt_Col (fun z => jt_f h (jt_has (jt_sg bi (a * 20) ca) z) (jt_has (jt_sg bi (b * 20) cb) z)) (jt_sg r0 0 f0) bi (g * 20) cg f r → post (nI f, bi, bc, r)) : wpY_collect post (nI f0, bi, bc, r0) (nI g) (nI h) (nI a) (nI b) := by
  have h2 := jy_coL hg ha hb hh hcg hca hcb lg la lb (jt_sg r0 0 f0) (by rw [jt_len]; exact hM) post hp cg 0 f0 r0 (jt_Col0 _ _ _ hn) (by omega)
  exact Exists.intro _ h2
theorem jy_stL {bi bc br : Nat → Int32} {d n : Nat} (hd : d < 4) (hn : n ≤ 20) (post : SY → Prop) (h : ∀ b', jt_Cpy (d * 20) 0 n br b' bi → post (nI n, b', upd bc d (nI n), br)) :
    ∀ e t b', jt_Cpy (d * 20) 0 t br b' bi → t + e = n → wY_store_2 post (nI d) (nI n) (e + 1) (nI t) b' bc br := by
  intro e
  induction e with
  | zero =>
    intro t b' hI he
    have e0 : t = n := by omega
    rw [e0] at hI
    have e3 : upd bc (nI d).toNatClampNeg (nI n) = upd bc d (nI n) := by rw [jt_sc hd]
    exact br_t (nI_le (by omega) (by omega)) (And.intro (jt_sv hd) (nm_r e3 (h b' hI)))
  | succ e ih =>
    intro t b' hI he
    have e2 : upd b' (nI d * 20 + nI t).toNatClampNeg (br (nI t).toNatClampNeg) = upd b' (d * 20 + t) (br (0 + t)) := by
      rw [nI_clamp (by omega), jt_ixc (by omega), Nat.zero_add]
    exact br_f (nI_ge (by omega) (by omega)) (And.intro (vp_in_nI (by omega) (by decide)) (And.intro (jt_ixv (by omega)) (nm_r e2 (nm_r (nI_1 t) (ih (t + 1) _ (jt_CpyS hI) (by omega))))))
theorem jy_st {bi bc br : Nat → Int32} {d n : Nat} (hd : d < 4) (hn : n ≤ 20) {post : SY → Prop} (h : ∀ b', jt_Cpy (d * 20) 0 n br b' bi → post (nI n, b', upd bc d (nI n), br)) : wpY_store post (nI n, bi, bc, br) (nI d) := by
  have h2 := jy_stL hd hn post h n 0 bi (jt_Cpy0 _ _ _ _) (by omega)
  rw [nI_0] at h2
  exact Exists.intro _ h2
theorem jy_spL {bi bc : Nat → Int32} {s c dd : Nat} (hs : s < 4) (hd : dd < 4) (hc : bc s = nI c) (h20 : c ≤ 20) (x : Int32) (post : Int32 → SY → Prop)
    (h : ∀ f r k b' b'', f ≤ c → jt_sg r 0 f = (jt_sg bi (s * 20) c).filter (jt_g x) → jt_Flt (jt_out x 2147483647) (s * 20) c k b' bi → jt_Cpy (dd * 20) 0 f r b'' b' → post (nI f) (nI f, b'', upd (upd bc s (nI k)) dd (nI f), r)) :
    ∀ d i f r, f ≤ i → jt_sg r 0 f = (jt_sg bi (s * 20) i).filter (jt_g x) → i + d = c → wY_split_26 post (nI s) x (nI dd) (d + 1) (nI i) (nI f) bi bc r := by
  intro d
  induction d with
  | zero =>
    intro i f r hf hr hi
    have e : i = c := by omega
    rw [e] at hr hf
    refine And.intro (jt_sv hs) (br_t ?_ (jy_rr hs hc h20 x 2147483647 (fun k b' hF => jy_st hd (by omega) (fun b'' hC => h f r k b' b'' hf hr hF hC))))
    rw [jt_sc hs, hc]
    exact nI_le (by omega) (by omega)
  | succ d ih =>
    intro i f r hf hr hi
    have hb : s * 20 + i < 80 := by omega
    have e0 : bi (nI s * 20 + nI i).toNatClampNeg = bi (s * 20 + i) := by rw [jt_ixc hb]
    refine And.intro (jt_sv hs) (br_f ?_ (And.intro (jt_ixv hb) ?_))
    · rw [jt_sc hs, hc]
      exact nI_ge (by omega) (by omega)
    · rw [e0]
      refine br_c (fun q => nm_r (nI_1 i) (ih (i + 1) f r (by omega) ?_ (by omega))) (fun q => And.intro (jt_ixv hb) (And.intro (vp_in_nI (by omega) (by decide)) (nm_r ?_ (nm_r (nI_1 f) (nm_r (nI_1 i) (ih (i + 1) (f + 1) (upd r f (bi (s * 20 + i))) (by omega) ?_ (by omega)))))))
      · have hn : ¬ jt_g x (bi (s * 20 + i)) = true := fun w => Int32.not_lt.mpr (jt_gi.mp w) q
        rw [hr, jt_sS bi (s * 20) i, List.filter_append, List.filter_cons_of_neg hn]
        exact (List.append_nil _).symm
      · rw [nI_clamp (by omega)]
      · have hn : jt_g x (bi (s * 20 + i)) = true := jt_gi.mpr (Int32.not_lt.mp q)
        rw [jt_snoc, hr, jt_sS bi (s * 20) i, List.filter_append, List.filter_cons_of_pos hn]
        rfl
theorem jy_wiL {f : Int32} {bi bc br : Nat → Int32} {a b ca cb : Nat} (ha : a < 4) (hb : b < 4) (hca : bc a = nI ca) (hcb : bc b = nI cb) (la : ca ≤ 20) (lb : cb ≤ 20) (post : Int32 → Prop)
    (hT : (∀ z, z ∈ jt_sg bi (a * 20) ca → z ∈ jt_sg bi (b * 20) cb) → post 1) (hF : (¬ ∀ z, z ∈ jt_sg bi (a * 20) ca → z ∈ jt_sg bi (b * 20) cb) → post 0) :
    ∀ d i, i + d = ca → (∀ t, t < i → bi (a * 20 + t) ∈ jt_sg bi (b * 20) cb) → wY_within_20 post (nI a) (nI b) f bi bc br (d + 1) (nI i) := by
  intro d
  induction d with
  | zero =>
    intro i hi hn
    refine And.intro (jt_sv ha) (br_t ?_ (hT ?_))
    · rw [jt_sc ha, hca]
      exact nI_le (by omega) (by omega)
    · intro z hz
      obtain ⟨t, h1, h2⟩ := jt_mem.mp hz
      rw [← h2]
      exact hn t (by omega)
  | succ d ih =>
    intro i hi hn
    have hx : a * 20 + i < 80 := by omega
    refine And.intro (jt_sv ha) (br_f ?_ (And.intro (jt_ixv hx) ?_))
    · rw [jt_sc ha, hca]
      exact nI_ge (by omega) (by omega)
    · rw [jt_ixc hx]
      refine jy_has hb hcb lb _ (fun hz => br_f (by decide) (nm_r (nI_1 i) (ih (i + 1) (by omega) ?_))) (fun hz => br_t rfl (hF ?_))
      · intro t ht
        by_cases e : t = i
        · rw [e]; exact hz
        · exact hn t (by omega)
      · intro q
        exact hz (q _ (jt_mem.mpr ⟨i, by omega, rfl⟩))
theorem jy_wi {f : Int32} {bi bc br : Nat → Int32} {a b ca cb : Nat} (ha : a < 4) (hb : b < 4) (hca : bc a = nI ca) (hcb : bc b = nI cb) (la : ca ≤ 20) (lb : cb ≤ 20) {post : Int32 → Prop}
    (hT : (∀ z, z ∈ jt_sg bi (a * 20) ca → z ∈ jt_sg bi (b * 20) cb) → post 1) (hF : (¬ ∀ z, z ∈ jt_sg bi (a * 20) ca → z ∈ jt_sg bi (b * 20) cb) → post 0) : wpY_within post (f, bi, bc, br) (nI a) (nI b) := by
  have h2 := jy_wiL (f := f) (br := br) ha hb hca hcb la lb post hT hF ca 0 (by omega) (fun t ht => by omega)
  rw [nI_0] at h2
  unfold wpY_within
  exact jy_isT ha (br_f (by decide) (jy_isT hb (br_f (by decide) (Exists.intro _ h2))))
theorem jy_atL {f : Int32} {bi bc br : Nat → Int32} {s c : Nat} (hs : s < 4) (hc : bc s = nI c) (h20 : c ≤ 20) (k rv : Int32) (post : Int32 → Prop) (h1 : ∀ t, t < c → nI ((jt_sg bi (s * 20) c).countP (jt_l (bi (s * 20 + t)))) = k → bi (s * 20 + t) = rv)
    (h0 : (∀ t, t < c → ¬ nI ((jt_sg bi (s * 20) c).countP (jt_l (bi (s * 20 + t)))) = k) → rv = 0) (h : post rv) :
    ∀ d i, i + d = c → (∀ t, t < i → ¬ nI ((jt_sg bi (s * 20) c).countP (jt_l (bi (s * 20 + t)))) = k) → wY_at_2 post (nI s) k f bi bc br (d + 1) (nI i) := by
  intro d
  induction d with
  | zero =>
    intro i hi hn
    have e : i = c := by omega
    rw [e] at hn
    unfold wY_at_2
    refine jy_isT hs (br_f (by decide) (And.intro (jt_sv hs) (br_t ?_ ?_)))
    · rw [jt_sc hs, hc]
      exact nI_le (by omega) (by omega)
    · rw [h0 hn] at h
      exact h
  | succ d ih =>
    intro i hi hn
    have hb : s * 20 + i < 80 := by omega
    unfold wY_at_2
    refine jy_isT hs (br_f (by decide) (And.intro (jt_sv hs) (br_f ?_ (And.intro (jt_ixv hb) ?_))))
    · rw [jt_sc hs, hc]
      exact nI_ge (by omega) (by omega)
    · rw [jt_ixc hb]
      refine jy_rank hs hc h20 _ (br_c (fun q => And.intro (jt_ixv hb) ?_) (fun q => nm_r (nI_1 i) (ih (i + 1) (by omega) ?_)))
      · rw [h1 i (by omega) q]
        exact h
      · intro t ht
        by_cases e : t = i
        · rw [e]; exact q
        · exact hn t (by omega)
theorem jy_at {f : Int32} {bi bc br : Nat → Int32} {s c : Nat} (hs : s < 4) (hc : bc s = nI c) (h20 : c ≤ 20) (k rv : Int32) {post : Int32 → Prop} (h1 : ∀ t, t < c → nI ((jt_sg bi (s * 20) c).countP (jt_l (bi (s * 20 + t)))) = k → bi (s * 20 + t) = rv)
    (h0 : (∀ t, t < c → ¬ nI ((jt_sg bi (s * 20) c).countP (jt_l (bi (s * 20 + t)))) = k) → rv = 0) (h : post rv) : wpY_at post (f, bi, bc, br) (nI s) k := by
  have h2 := jy_atL (f := f) (br := br) hs hc h20 k rv post h1 h0 h c 0 (by omega) (fun t ht => by omega)
  rw [nI_0] at h2
  exact Exists.intro _ h2
