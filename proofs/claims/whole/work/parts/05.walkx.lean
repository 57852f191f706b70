theorem jt_m20 (s : Nat) : nI s * 20 = nI (s * 20) := pk_mul s 20
theorem jt_ix (s k : Nat) : nI s * 20 + nI k = nI (s * 20 + k) := by rw [jt_m20, nI_add]
theorem jt_ixc {s k : Nat} (h : s * 20 + k < 80) : (nI s * 20 + nI k).toNatClampNeg = s * 20 + k := pk_cl _ (jt_ix s k) (by omega)
theorem jt_ixv {s k : Nat} (h : s * 20 + k < 80) : vp_in (nI s * 20 + nI k) 80 := pk_in (s * 20 + k) 80 h (jt_ix s k) (by decide)
theorem jt_sc {s : Nat} (h : s < 4) : (nI s).toNatClampNeg = s := nI_clamp (by omega)
theorem jt_sv {s : Nat} (h : s < 4) : vp_in (nI s) 4 := vp_in_nI h (by decide)
theorem jx_isT {post : Int32 → Prop} {s : Nat} (hs : s < 4) (h : post 1) : wpX_isSet post (nI s) :=
  br_f (nI_pos (by omega)) (br_f (nI_ge (b := 4) hs (by decide)) h)
theorem jx_isF {post : Int32 → Prop} {v : Int32} (hv : jt_bad v) (h : post 0) : wpX_isSet post v := by
  by_cases h0 : v < 0
  · exact br_t h0 h
  · exact br_f h0 (br_t (hv.resolve_left h0) h)
theorem jx_sm {ai ac am : Nat → Int32} {s c : Nat} (hs : s < 4) (hc : ac s = nI c) (h20 : c ≤ 20) (x : Int32) (post : Int32 → Prop) (h : post (nI ((jt_sg ai (s * 20) c).countP (jt_l x)))) :
    ∀ d i, i + d = c → wX_smallerThan_5 post (nI s) x ai ac am (d + 1) (nI ((jt_sg ai (s * 20) i).countP (jt_l x))) (nI i) := by
  intro d
  induction d with
  | zero =>
    intro i hi
    have e : i = c := by omega
    rw [e]
    refine And.intro (jt_sv hs) (br_t ?_ h)
    rw [jt_sc hs, hc]
    exact nI_le (Nat.le_refl _) (by omega)
  | succ d ih =>
    intro i hi
    have hb : s * 20 + i < 80 := by omega
    have h2 := ih (i + 1) (by omega)
    rw [jt_cntS] at h2
    refine And.intro (jt_sv hs) (br_f ?_ (And.intro (jt_ixv hb) ?_))
    · rw [jt_sc hs, hc]
      exact nI_ge (by omega) (by omega)
    · rw [jt_ixc hb]
      by_cases hx : ai (s * 20 + i) < x
      · refine br_f (Int32.not_le.mpr hx) (nm_r (nI_1 _) (nm_r (nI_1 _) ?_))
        rw [if_pos (jt_li.mpr hx)] at h2
        exact h2
      · refine br_t (Int32.not_lt.mp hx) (nm_r (nI_1 _) ?_)
        have hn : ¬ jt_l x (ai (s * 20 + i)) = true := fun q => hx (jt_li.mp q)
        rw [if_neg hn, Nat.add_zero] at h2
        exact h2
theorem jx_small {ai ac am : Nat → Int32} {s c : Nat} (hs : s < 4) (hc : ac s = nI c) (h20 : c ≤ 20) (x : Int32) {post : Int32 → Prop} (h : post (nI ((jt_sg ai (s * 20) c).countP (jt_l x)))) : wpX_smallerThan post (ai, ac, am) (nI s) x := by
  have h2 := jx_sm (am := am) hs hc h20 x post h c 0 (by omega)
  have e0 : (jt_sg ai (s * 20) 0).countP (jt_l x) = 0 := rfl
  rw [e0, nI_0] at h2
  exact Exists.intro (c + 1) h2
theorem jx_hold {ai ac am : Nat → Int32} {s c k : Nat} (hs : s < 4) (hc : ac s = nI c) (h20 : c ≤ 20) (hk : k ≤ 20) (x : Int32) {post : Int32 → Prop} (hT : k < c → ai (s * 20 + k) = x → post 1) (hF : (c ≤ k ∨ ¬ ai (s * 20 + k) = x) → post 0) :
    wpX_holdsAt post (ai, ac, am) (nI s) (nI k) x := by
  refine And.intro (jt_sv hs) (br_c (fun q => hF (Or.inl ?_)) (fun q => ?_))
  · rw [jt_sc hs, hc, nI_leI (by omega) (by omega)] at q
    exact q
  · rw [jt_sc hs, hc, nI_leI (by omega) (by omega)] at q
    have hb : s * 20 + k < 80 := by omega
    refine And.intro (jt_ixv hb) ?_
    rw [jt_ixc hb]
    exact br_c (fun w => hT (by omega) w) (fun w => hF (Or.inr w))
theorem jx_holdL {ai ac am : Nat → Int32} {s c : Nat} (hs : s < 4) (hc : ac s = nI c) (h20 : c ≤ 20) (hS : (jt_sg ai (s * 20) c).Pairwise (· < ·)) (x : Int32) {post : Int32 → Prop} (hT : x ∈ jt_sg ai (s * 20) c → post 1) (hF : ¬ x ∈ jt_sg ai (s * 20) c → post 0) :
    wpX_holdsAt post (ai, ac, am) (nI s) (nI ((jt_sg ai (s * 20) c).countP (jt_l x))) x := by
  have hl := jt_cntL (jt_l x) ai (s * 20) c
  refine jx_hold hs hc h20 (by omega) x (fun h1 h2 => hT (jt_mem.mpr ⟨_, h1, h2⟩)) (fun q => hF (fun hx => ?_))
  have h3 := jt_hold hS x hx
  have h4 := (List.getElem?_eq_some_iff.mp h3).1
  rw [jt_len] at h4
  rw [jt_get ai (s * 20) c _ h4] at h3
  rcases q with q | q
  · omega
  · exact q (Option.some.inj h3)
theorem jx_insL {ai ac am : Nat → Int32} {s c k : Nat} (hs : s < 4) (hc : ac s = nI c) (h20 : c < 20) (hk : k ≤ c) (x : Int32) (post : SX → Prop) (h : ∀ a', jt_Ins (s * 20) c k a' ai → post (upd a' (s * 20 + k) x, upd ac s (nI (c + 1)), am)) :
    ∀ d a', jt_Ins (s * 20) c (k + d) a' ai → k + d ≤ c → wX_insertAt_14 post (nI s) (nI k) x (nI (s * 20)) (d + 1) (nI (k + d)) a' ac am := by
  intro d
  induction d with
  | zero =>
    intro a' hI hd
    have e1 : (nI (s * 20) + nI k).toNatClampNeg = s * 20 + k := pk_cl _ (nI_add _ _) (by omega)
    have e2 : upd a' (nI (s * 20) + nI k).toNatClampNeg x = upd a' (s * 20 + k) x := by rw [e1]
    have e3 : upd ac (nI s).toNatClampNeg (ac (nI s).toNatClampNeg + 1) = upd ac s (nI (c + 1)) := by rw [jt_sc hs, hc, nI_1]
    exact br_t (nI_le (by omega) (by omega)) (And.intro (pk_in (s * 20 + k) 80 (by omega) (nI_add _ _) (by decide)) (nm_r e2 (And.intro (jt_sv hs) (And.intro (jt_sv hs) (nm_r e3 (h a' hI))))))
  | succ d ih =>
    intro a' hI hd
    have eb : nI (s * 20) + nI (k + (d + 1)) = nI (s * 20 + (k + d) + 1) := nI_add _ _
    have ea : nI (s * 20) + nI (k + (d + 1)) - 1 = nI (s * 20 + (k + d)) := by rw [eb, nI_pred]
    have e2 : upd a' (nI (s * 20) + nI (k + (d + 1))).toNatClampNeg (a' (nI (s * 20) + nI (k + (d + 1)) - 1).toNatClampNeg) = upd a' (s * 20 + (k + d) + 1) (a' (s * 20 + (k + d))) := by
      rw [pk_cl _ eb (by omega), pk_cl _ ea (by omega)]
    exact br_f (nI_ge (by omega) (by omega)) (And.intro (pk_in _ 80 (by omega) ea (by decide)) (And.intro (pk_in _ 80 (by omega) eb (by decide)) (nm_r e2 (nm_r (pk_m1 (k + d)) (ih _ (jt_InsS hI (by omega)) (by omega))))))
theorem jx_ins {ai ac am : Nat → Int32} {s c k : Nat} (hs : s < 4) (hc : ac s = nI c) (h20 : c < 20) (hk : k ≤ c) (x : Int32) {post : SX → Prop} (h : ∀ a', jt_Ins (s * 20) c k a' ai → post (upd a' (s * 20 + k) x, upd ac s (nI (c + 1)), am)) :
    wpX_insertAt post (ai, ac, am) (nI s) (nI k) x := by
  have e : k + (c - k) = c := by omega
  have h2 := jx_insL hs hc h20 hk x post h (c - k) ai (by rw [e]; exact jt_Ins0 _ _ _) (by omega)
  rw [e] at h2
  have e3 : ac (nI s).toNatClampNeg = nI c := by rw [jt_sc hs, hc]
  exact nm_r (jt_m20 s) (And.intro (jt_sv hs) (nm_r e3 (Exists.intro _ h2)))
theorem jx_cutL {ai ac am : Nat → Int32} {s c fr g : Nat} (hs : s < 4) (hc : ac s = nI c) (h20 : c ≤ 20) (post : SX → Prop) (h : ∀ a', jt_Cut (s * 20) fr g (c - g) a' ai → post (a', upd ac s (nI (c - g)), am)) :
    ∀ d t a', jt_Cut (s * 20) fr g t a' ai → t + g + d = c → fr ≤ t → wX_cut_14 post (nI s) (nI (s * 20)) (nI g) (d + 1) (nI (t + g)) a' ac am := by
  intro d
  induction d with
  | zero =>
    intro t a' hI hd hf
    have e : t = c - g := by omega
    rw [e] at hI
    have e3 : upd ac (nI s).toNatClampNeg (ac (nI s).toNatClampNeg - nI g) = upd ac s (nI (c - g)) := by rw [jt_sc hs, hc, pk_sub (by omega)]
    refine And.intro (jt_sv hs) (br_t ?_ (And.intro (jt_sv hs) (And.intro (jt_sv hs) (nm_r e3 (h a' hI)))))
    rw [jt_sc hs, hc]
    exact nI_le (by omega) (by omega)
  | succ d ih =>
    intro t a' hI hd hf
    have eb : nI (s * 20) + nI (t + g) = nI (s * 20 + t + g) := by rw [nI_add, Nat.add_assoc]
    have ea : nI (s * 20) + nI (t + g) - nI g = nI (s * 20 + t) := by rw [eb, pk_sub (by omega), Nat.add_sub_cancel]
    have e2 : upd a' (nI (s * 20) + nI (t + g) - nI g).toNatClampNeg (a' (nI (s * 20) + nI (t + g)).toNatClampNeg) = upd a' (s * 20 + t) (a' (s * 20 + t + g)) := by
      rw [pk_cl _ ea (by omega), pk_cl _ eb (by omega)]
    have e4 : nI (t + g) + 1 = nI (t + 1 + g) := by rw [nI_1, Nat.add_right_comm]
    refine And.intro (jt_sv hs) (br_f ?_ (And.intro (pk_in _ 80 (by omega) eb (by decide)) (And.intro (pk_in _ 80 (by omega) ea (by decide)) (nm_r e2 (nm_r e4 (ih (t + 1) _ (jt_CutS hI hf) (by omega) (by omega)))))))
    rw [jt_sc hs, hc]
    exact nI_ge (by omega) (by omega)
theorem jx_cut {ai ac am : Nat → Int32} {s c : Nat} (fr to : Nat) (hs : s < 4) (hc : ac s = nI c) (h20 : c ≤ 20) (hf : fr ≤ to) (ht : to ≤ c) {post : SX → Prop} (h : ∀ a', jt_Cut (s * 20) fr (to - fr) (c - (to - fr)) a' ai → post (a', upd ac s (nI (c - (to - fr))), am)) :
    wpX_cut post (ai, ac, am) (nI s) (nI fr) (nI to) := by
  have e : fr + (to - fr) = to := by omega
  have h2 := jx_cutL hs hc h20 post h (c - to) fr ai (jt_Cut0 _ _ _ _) (by omega) (Nat.le_refl _)
  rw [e] at h2
  exact nm_r (jt_m20 s) (nm_r (pk_sub hf) (Exists.intro _ h2))
theorem jx_tailL {ai ac am : Nat → Int32} {s c k d : Nat} (hs : s < 4) (hd : d < 4) (hsd : s ≠ d) (h20 : c ≤ 20) (hk : k ≤ c) (post : SX → Prop) (h : ∀ a', jt_Cpy (d * 20) (s * 20 + k) (c - k) ai a' ai → post (a', upd (upd ac d (nI (c - k))) s (nI k), am)) :
    ∀ e t a', jt_Cpy (d * 20) (s * 20 + k) t ai a' ai → t + e = c - k → wX_moveTail_13 post (nI s) (nI k) (nI d) (nI (c - k)) (e + 1) (nI t) a' ac am := by
  intro e
  induction e with
  | zero =>
    intro t a' hI he
    have e0 : t = c - k := by omega
    rw [e0] at hI
    have e3 : upd ac (nI d).toNatClampNeg (nI (c - k)) = upd ac d (nI (c - k)) := by rw [jt_sc hd]
    have e4 : upd (upd ac d (nI (c - k))) (nI s).toNatClampNeg (nI k) = upd (upd ac d (nI (c - k))) s (nI k) := by rw [jt_sc hs]
    exact br_t (nI_le (by omega) (by omega)) (And.intro (jt_sv hd) (nm_r e3 (And.intro (jt_sv hs) (nm_r e4 (h a' hI)))))
  | succ e ih =>
    intro t a' hI he
    have ea : nI s * 20 + nI k + nI t = nI (s * 20 + k + t) := by rw [jt_ix, nI_add]
    have e2 : upd a' (nI d * 20 + nI t).toNatClampNeg (a' (nI s * 20 + nI k + nI t).toNatClampNeg) = upd a' (d * 20 + t) (ai (s * 20 + k + t)) := by
      rw [pk_cl _ ea (by omega), jt_ixc (by omega), hI.1 (s * 20 + k + t) (by omega)]
    exact br_f (nI_ge (by omega) (by omega)) (And.intro (pk_in _ 80 (by omega) ea (by decide)) (And.intro (jt_ixv (by omega)) (nm_r e2 (nm_r (nI_1 t) (ih (t + 1) _ (jt_CpyS hI) (by omega))))))
theorem jx_tail {ai ac am : Nat → Int32} {s c k d : Nat} (hs : s < 4) (hd : d < 4) (hsd : s ≠ d) (hc : ac s = nI c) (h20 : c ≤ 20) (hk : k ≤ c) {post : SX → Prop} (h : ∀ a', jt_Cpy (d * 20) (s * 20 + k) (c - k) ai a' ai → post (a', upd (upd ac d (nI (c - k))) s (nI k), am)) :
    wpX_moveTail post (ai, ac, am) (nI s) (nI k) (nI d) := by
  have h2 := jx_tailL hs hd hsd h20 hk post h (c - k) 0 ai (jt_Cpy0 _ _ _ _) (by omega)
  rw [nI_0] at h2
  have e3 : ac (nI s).toNatClampNeg - nI k = nI (c - k) := by rw [jt_sc hs, hc, pk_sub hk]
  exact And.intro (jt_sv hs) (nm_r e3 (Exists.intro _ h2))
theorem jx_takeL {ai ac am : Nat → Int32} {d n : Nat} (hd : d < 4) (hn : n ≤ 20) (post : SX → Prop) (h : ∀ a', jt_Cpy (d * 20) 0 n am a' ai → post (a', upd ac d (nI n), am)) :
    ∀ e t a', jt_Cpy (d * 20) 0 t am a' ai → t + e = n → wX_takeMerged_2 post (nI d) (nI n) (e + 1) (nI t) a' ac am := by
  intro e
  induction e with
  | zero =>
    intro t a' hI he
    have e0 : t = n := by omega
    rw [e0] at hI
    have e3 : upd ac (nI d).toNatClampNeg (nI n) = upd ac d (nI n) := by rw [jt_sc hd]
    exact br_t (nI_le (by omega) (by omega)) (And.intro (jt_sv hd) (nm_r e3 (h a' hI)))
  | succ e ih =>
    intro t a' hI he
    have e2 : upd a' (nI d * 20 + nI t).toNatClampNeg (am (nI t).toNatClampNeg) = upd a' (d * 20 + t) (am (0 + t)) := by
      rw [nI_clamp (by omega), jt_ixc (by omega), Nat.zero_add]
    exact br_f (nI_ge (by omega) (by omega)) (And.intro (vp_in_nI (by omega) (by decide)) (And.intro (jt_ixv (by omega)) (nm_r e2 (nm_r (nI_1 t) (ih (t + 1) _ (jt_CpyS hI) (by omega))))))
theorem jx_take {ai ac am : Nat → Int32} {d n : Nat} (hd : d < 4) (hn : n ≤ 20) {post : SX → Prop} (h : ∀ a', jt_Cpy (d * 20) 0 n am a' ai → post (a', upd ac d (nI n), am)) : wpX_takeMerged post (ai, ac, am) (nI d) (nI n) := by
  have h2 := jx_takeL hd hn post h n 0 ai (jt_Cpy0 _ _ _ _) (by omega)
  rw [nI_0] at h2
  exact Exists.intro _ h2
theorem jx_keeps {post : Int32 → Prop} (h : Nat) (hh : h < 4) (p q : Bool) (hp : post (jt_b (jt_f h p q))) : wpX_keeps post (nI h) (jt_b p) (jt_b q) := by
  have c4 : h = 0 ∨ h = 1 ∨ h = 2 ∨ h = 3 := by omega
  rcases c4 with e | e | e | e <;> subst e <;> cases p <;> cases q <;>
    repeat (first | exact hp | refine br_t (by decide) ?_ | refine br_f (by decide) ?_)
