def i_Rel (k : Nat) (u : SX) (v : SY) : Prop := ∃ c, jt_R u.1 u.2.1 v.2.1 v.2.2.1 c
theorem i_up {k : Nat} {u : SX} {v : SY} (h : i_Rel k u v) : i_Rel (k + 5) u v := h
theorem jt_rel {k : Nat} {ai ac am bi bc br : Nat → Int32} {f : Int32} (h : ∃ c, jt_R ai ac bi bc c) : i_Rel k (ai, ac, am) (f, bi, bc, br) := h
theorem i_vc0 : wpX_init (fun u => wpY_init (fun v => i_Rel 0 u v)) := by
  refine jt_rel (k := 0) ⟨fun _ => 0, fun s hs => ?_⟩
  exact ⟨rfl, rfl, Nat.zero_le 20, List.Pairwise.nil, List.Perm.refl _⟩
theorem jy_atN {f : Int32} {bi bc br : Nat → Int32} {v x : Int32} (hv : jt_bad v) {post : Int32 → Prop} (h : post 0) : wpY_at post (f, bi, bc, br) v x := by
  refine Exists.intro 1 ?_
  unfold wY_at_2
  exact jy_isF hv (br_t rfl h)
theorem jy_rankN {f : Int32} {bi bc br : Nat → Int32} {v x : Int32} (hv : jt_bad v) {post : Int32 → Prop} (h : post (-1)) : wpY_rank post (f, bi, bc, br) v x := by
  unfold wpY_rank
  exact jy_isF hv (br_t rfl h)
theorem jy_wiN1 {f : Int32} {bi bc br : Nat → Int32} {v x : Int32} (hv : jt_bad v) {post : Int32 → Prop} (h : post 0) : wpY_within post (f, bi, bc, br) v x := by
  unfold wpY_within
  exact jy_isF hv (br_t rfl h)
theorem jy_wiN2 {f : Int32} {bi bc br : Nat → Int32} {s : Nat} {x : Int32} (hs : s < 4) (hv : jt_bad x) {post : Int32 → Prop} (h : post 0) : wpY_within post (f, bi, bc, br) (nI s) x := by
  unfold wpY_within
  exact jy_isT hs (br_f (by decide) (jy_isF hv (br_t rfl h)))
theorem jy_sp {bi bc br : Nat → Int32} {s c dd : Nat} (hs : s < 4) (hd : dd < 4) (hc : bc s = nI c) (h20 : c ≤ 20) (x : Int32) {post : Int32 → SY → Prop}
    (h : ∀ f r k b' b'', f ≤ c → jt_sg r 0 f = (jt_sg bi (s * 20) c).filter (jt_g x) → jt_Flt (jt_out x 2147483647) (s * 20) c k b' bi → jt_Cpy (dd * 20) 0 f r b'' b' → post (nI f) (nI f, b'', upd (upd bc s (nI k)) dd (nI f), r)) :
    ∃ n, wY_split_26 post (nI s) x (nI dd) n 0 0 bi bc br := by
  have h2 := jy_spL hs hd hc h20 x post h c 0 0 br (Nat.le_refl _) rfl (by omega)
  rw [nI_0] at h2
  exact Exists.intro _ h2
