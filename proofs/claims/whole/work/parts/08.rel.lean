theorem jt_fl {a : Nat → Int32} {b c : Nat} {x : Int32} (h : (jt_sg a b c).Pairwise (· < ·)) : (jt_sg a b c).filter (jt_l x) = jt_sg a b ((jt_sg a b c).countP (jt_l x)) := by
  rw [(jt_sl x h).1, jt_take (jt_cntL _ _ _ _)]
theorem jt_fg {a : Nat → Int32} {b c : Nat} {x : Int32} (h : (jt_sg a b c).Pairwise (· < ·)) : (jt_sg a b c).filter (jt_g x) = jt_sg a (b + (jt_sg a b c).countP (jt_l x)) (c - (jt_sg a b c).countP (jt_l x)) := by
  rw [(jt_sl x h).2, jt_drop (jt_cntL _ _ _ _)]
theorem jt_fgt {a : Nat → Int32} {b c : Nat} {x : Int32} (h : (jt_sg a b c).Pairwise (· < ·)) : (jt_sg a b c).filter (jt_gt x) = jt_sg a (b + (jt_sg a b c).countP (jt_le x)) (c - (jt_sg a b c).countP (jt_le x)) := by
  rw [(jt_sle x h).2, jt_drop (jt_cntL _ _ _ _)]
theorem jt_upds {a : Nat → Int32} {s : Nat} {x : Int32} (h : a s = x) : upd a s x = a := by
  funext j
  by_cases e : j = s
  · rw [e, pk_us, h]
  · rw [pk_un e]
theorem jt_lenP {a a' : Nat → Int32} {b b' n m : Nat} (h : (jt_sg a b n).Perm (jt_sg a' b' m)) : n = m := by
  have h2 := h.length_eq
  rw [jt_len, jt_len] at h2
  exact h2
theorem jt_rem {ai ac bi bc : Nat → Int32} {c : Nat → Nat} (R : jt_R ai ac bi bc c) {s : Nat} (hs : s < 4) {lo hi : Int32} (hl : lo ≤ hi) {a' b' : Nat → Int32} {fr to k' : Nat} (ef : fr = (jt_sg ai (s * 20) (c s)).countP (jt_l lo)) (et : to = (jt_sg ai (s * 20) (c s)).countP (jt_le hi))
    (hC : jt_Cut (s * 20) fr (to - fr) (c s - (to - fr)) a' ai) (hF : jt_Flt (jt_out lo hi) (s * 20) (c s) k' b' bi) : k' = c s - (to - fr) ∧ ∃ c', jt_R a' (upd ac s (nI (c s - (to - fr)))) b' (upd bc s (nI k')) c' := by
  obtain ⟨hac, hbc, h20, hS, hP⟩ := R s hs
  have hft : fr ≤ to := by
    rw [ef, et]
    exact List.countP_mono_left (fun y _ hy => jt_lei.mpr (Int32.le_of_lt (Int32.lt_of_lt_of_le (jt_li.mp hy) hl)))
  have htc : to ≤ c s := by rw [et]; exact jt_cntL _ _ _ _
  have eX : jt_sg a' (s * 20) (c s - (to - fr)) = (jt_sg ai (s * 20) (c s)).filter (jt_l lo) ++ (jt_sg ai (s * 20) (c s)).filter (jt_gt hi) := by
    rw [jt_CutE hC (by omega), jt_fl hS, jt_fgt hS, ← ef, ← et, show s * 20 + fr + (to - fr) = s * 20 + to by omega, show c s - (to - fr) - fr = c s - to by omega]
  have hp : (jt_sg b' (s * 20) k').Perm (jt_sg a' (s * 20) (c s - (to - fr))) := by
    rw [eX, hF.2.2]
    exact (hP.filter _).trans (jt_outP hl)
  have ek := jt_lenP hp
  have hk := hF.1
  refine ⟨ek, ?_⟩
  rw [ek] at hp ⊢
  exact jt_put R (by omega) (fun j hj => hC.1 j (by omega)) (fun j hj => hF.2.1 j (by omega)) (by rw [eX]; exact jt_rng hS hl) hp
theorem jt_remN {ai ac bi bc : Nat → Int32} {c : Nat → Nat} (R : jt_R ai ac bi bc c) {s : Nat} (hs : s < 4) {lo hi : Int32} {b' : Nat → Int32} {k' : Nat} (hall : ∀ y, y ∈ jt_sg ai (s * 20) (c s) → jt_out lo hi y = true)
    (hF : jt_Flt (jt_out lo hi) (s * 20) (c s) k' b' bi) : k' = c s ∧ ∃ c', jt_R ai ac b' (upd bc s (nI k')) c' := by
  obtain ⟨hac, hbc, h20, hS, hP⟩ := R s hs
  have e : jt_sg b' (s * 20) k' = jt_sg bi (s * 20) (c s) := by
    rw [hF.2.2]
    exact List.filter_eq_self.mpr (fun y hy => hall y (hP.mem_iff.mp hy))
  have hp : (jt_sg b' (s * 20) k').Perm (jt_sg ai (s * 20) (c s)) := by rw [e]; exact hP
  have ek := jt_lenP hp
  have hk := hF.1
  rw [ek] at hp
  refine ⟨ek, ?_⟩
  have h2 := jt_put R (d := s) (n := c s) h20 (jt_off0 s ai) (fun j hj => hF.2.1 j (by omega)) hS hp
  rw [jt_upds hac] at h2
  rw [ek]
  exact h2
theorem jt_insR {ai ac bi bc : Nat → Int32} {c : Nat → Nat} (R : jt_R ai ac bi bc c) {s k : Nat} (hs : s < 4) (h19 : c s < 20) {x : Int32} (hx : ¬ x ∈ jt_sg ai (s * 20) (c s)) {a' : Nat → Int32} (ek : k = (jt_sg ai (s * 20) (c s)).countP (jt_l x)) (hI : jt_Ins (s * 20) (c s) k a' ai) :
    ∃ c', jt_R (upd a' (s * 20 + k) x) (upd ac s (nI (c s + 1))) (upd bi (s * 20 + c s) x) (upd bc s (nI (c s + 1))) c' := by
  obtain ⟨hac, hbc, h20, hS, hP⟩ := R s hs
  have hk : k ≤ c s := by rw [ek]; exact jt_cntL _ _ _ _
  have eX : jt_sg (upd a' (s * 20 + k) x) (s * 20) (c s + 1) = (jt_sg ai (s * 20) (c s)).filter (jt_l x) ++ x :: (jt_sg ai (s * 20) (c s)).filter (jt_g x) := by
    rw [jt_InsE hI hk x, jt_fl hS, jt_fg hS, ← ek]
  have eY : jt_sg (upd bi (s * 20 + c s) x) (s * 20) (c s + 1) = jt_sg bi (s * 20) (c s) ++ [x] := by
    have e2 : jt_sg (upd bi (s * 20 + c s) x) (s * 20) (c s) = jt_sg bi (s * 20) (c s) := jt_congr (c s) (fun t ht => pk_un (by omega))
    rw [jt_sS, e2, pk_us]
  refine jt_put R (by omega) (fun j hj => ?_) (fun j hj => ?_) ?_ ?_
  · rw [pk_un (by omega)]
    exact hI.1 j (by omega)
  · exact pk_un (by omega)
  · rw [eX]
    exact jt_insS hS hx
  · rw [eX, eY]
    exact jt_insP hS hP x
theorem jt_max (y : Int32) : y ≤ 2147483647 := by
  have h : (2147483647 : Int32) = Int32.maxValue := by decide
  rw [h]
  exact Int32.le_maxValue y
theorem jt_outM (x y : Int32) : jt_out x 2147483647 y = jt_l x y := by
  have h : jt_gt 2147483647 y = false := decide_eq_false (Int32.not_lt.mpr (jt_max y))
  unfold jt_out
  rw [h, Bool.or_false]
theorem jt_spS {ai ac bi bc : Nat → Int32} {c : Nat → Nat} (R : jt_R ai ac bi bc c) {s k : Nat} (hs : s < 4) {x : Int32} (ek : k = (jt_sg ai (s * 20) (c s)).countP (jt_l x)) {a' r b' b'' : Nat → Int32} {f k1 : Nat} (hC : jt_Cut (s * 20) 0 (k - 0) (c s - (k - 0)) a' ai) (hr : jt_sg r 0 f = (jt_sg bi (s * 20) (c s)).filter (jt_g x))
    (hF : jt_Flt (jt_out x 2147483647) (s * 20) (c s) k1 b' bi) (hD : jt_Cpy (s * 20) 0 f r b'' b') : f = c s - (k - 0) ∧ ∃ c', jt_R a' (upd ac s (nI (c s - (k - 0)))) b'' (upd (upd bc s (nI k1)) s (nI f)) c' := by
  obtain ⟨hac, hbc, h20, hS, hP⟩ := R s hs
  have hk : k ≤ c s := by rw [ek]; exact jt_cntL _ _ _ _
  have eX : jt_sg a' (s * 20) (c s - (k - 0)) = (jt_sg ai (s * 20) (c s)).filter (jt_g x) := by
    rw [jt_CutE hC (by omega), jt_fg hS, ← ek, jt_s0, List.nil_append, show s * 20 + 0 + (k - 0) = s * 20 + k by omega, show c s - (k - 0) - 0 = c s - k by omega]
  have hp : (jt_sg b'' (s * 20) f).Perm (jt_sg a' (s * 20) (c s - (k - 0))) := by
    rw [jt_CpyE hD, hr, eX]
    exact hP.filter _
  have ef := jt_lenP hp
  have hk1 := hF.1
  refine ⟨ef, ?_⟩
  rw [jt_updu]
  rw [ef] at hp hD ⊢
  exact jt_put R (by omega) (fun j hj => hC.1 j (by omega)) (fun j hj => (hD.1 j (by omega)).trans (hF.2.1 j (by omega))) (by rw [eX]; exact hS.filter _) hp
theorem jt_spD {ai ac bi bc : Nat → Int32} {c : Nat → Nat} (R : jt_R ai ac bi bc c) {s d k : Nat} (hs : s < 4) (hd : d < 4) (hsd : s ≠ d) {x : Int32} (ek : k = (jt_sg ai (s * 20) (c s)).countP (jt_l x)) {a' r b' b'' : Nat → Int32} {f k1 : Nat} (hC : jt_Cpy (d * 20) (s * 20 + k) (c s - k) ai a' ai)
    (hr : jt_sg r 0 f = (jt_sg bi (s * 20) (c s)).filter (jt_g x)) (hF : jt_Flt (jt_out x 2147483647) (s * 20) (c s) k1 b' bi) (hD : jt_Cpy (d * 20) 0 f r b'' b') :
    f = c s - k ∧ ∃ c', jt_R a' (upd (upd ac d (nI (c s - k))) s (nI k)) b'' (upd (upd bc s (nI k1)) d (nI f)) c' := by
  obtain ⟨hac, hbc, h20, hS, hP⟩ := R s hs
  have hk : k ≤ c s := by rw [ek]; exact jt_cntL _ _ _ _
  have eX : jt_sg a' (d * 20) (c s - k) = (jt_sg ai (s * 20) (c s)).filter (jt_g x) := by
    rw [jt_CpyE hC, jt_fg hS, ← ek]
  have eK : jt_sg ai (s * 20) k = (jt_sg ai (s * 20) (c s)).filter (jt_l x) := by
    rw [jt_fl hS, ← ek]
  have eB : jt_sg b' (s * 20) k1 = (jt_sg bi (s * 20) (c s)).filter (jt_l x) := by
    rw [hF.2.2]
    exact List.filter_congr (fun y _ => jt_outM x y)
  have hp1 : (jt_sg b' (s * 20) k1).Perm (jt_sg ai (s * 20) k) := by
    rw [eB, eK]
    exact hP.filter _
  have e1 := jt_lenP hp1
  have hp : (jt_sg b'' (d * 20) f).Perm (jt_sg a' (d * 20) (c s - k)) := by
    rw [jt_CpyE hD, hr, eX]
    exact hP.filter _
  have ef := jt_lenP hp
  refine ⟨ef, ?_⟩
  have hk1 := hF.1
  rw [e1] at hp1 hF ⊢
  rw [ef] at hp hD ⊢
  obtain ⟨c1, R1⟩ := jt_put R (d := s) (n := k) (by omega) (jt_off0 s ai) (fun j hj => hF.2.1 j (by omega)) (by rw [eK]; exact hS.filter _) hp1
  rw [jt_updc ac hsd]
  exact jt_put R1 (d := d) (n := c s - k) (by omega) (fun j hj => hC.1 j (by omega)) (fun j hj => hD.1 j (by omega)) (by rw [eX]; exact hS.filter _) hp
theorem jt_coR {ai ac bi bc : Nat → Int32} {c : Nat → Nat} (R : jt_R ai ac bi bc c) {d n : Nat} (hn : n ≤ 20) {m r a' b' : Nat → Int32} (hS : (jt_sg m 0 n).Pairwise (· < ·)) (hP : (jt_sg r 0 n).Perm (jt_sg m 0 n)) (hX : jt_Cpy (d * 20) 0 n m a' ai) (hY : jt_Cpy (d * 20) 0 n r b' bi) :
    ∃ c', jt_R a' (upd ac d (nI n)) b' (upd bc d (nI n)) c' := by
  refine jt_put R hn (fun j hj => hX.1 j (by omega)) (fun j hj => hY.1 j (by omega)) ?_ ?_
  · rw [jt_CpyE hX]
    exact hS
  · rw [jt_CpyE hX, jt_CpyE hY]
    exact hP
theorem jt_clR {ai ac bi bc : Nat → Int32} {c : Nat → Nat} (R : jt_R ai ac bi bc c) (s : Nat) : ∃ c', jt_R ai (upd ac s 0) bi (upd bc s 0) c' := by
  have h := jt_put R (d := s) (n := 0) (by omega) (jt_off0 s ai) (jt_off0 s bi) List.Pairwise.nil (List.Perm.refl _)
  rw [nI_0] at h
  exact h
theorem jt_rkB {ai bi : Nat → Int32} {b c t : Nat} (hS : (jt_sg ai b c).Pairwise (· < ·)) (hP : (jt_sg bi b c).Perm (jt_sg ai b c)) (ht : t < c) {k : Nat} : (jt_sg bi b c).countP (jt_l (bi (b + t))) = k ↔ (k < c ∧ ai (b + k) = bi (b + t)) := by
  have hm : bi (b + t) ∈ jt_sg ai b c := hP.mem_iff.mp (jt_mem.mpr ⟨t, ht, rfl⟩)
  rw [hP.countP_eq, jt_rk hS hm]
  constructor
  · intro h
    have h4 := (List.getElem?_eq_some_iff.mp h).1
    rw [jt_len] at h4
    rw [jt_get ai b c k h4] at h
    exact ⟨h4, Option.some.inj h⟩
  · rintro ⟨h4, h⟩
    rw [jt_get ai b c k h4, h]
