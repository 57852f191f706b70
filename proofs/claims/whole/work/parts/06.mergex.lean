theorem jx_185 {post : Int32 → SX → Prop} {J : Int32 → Int32 → Int32 → Int32 → (Nat → Int32) → (Nat → Int32) → (Nat → Int32) → Prop} {x1 x2 x3 x6 : Int32} (p q : Bool) {i j i' j' : Nat} (st : Nat) {ai ac am : Nat → Int32}
    (ei : nI i + jt_b p = nI i') (ej : nI j + jt_b q = nI j') (h : J (nI i') (nI j') x6 (nI (st + 1)) ai ac am) : wX_merge_185 post J x1 x2 x3 (nI i) (nI j) x6 (nI st) (jt_b p) (jt_b q) ai ac am := by
  cases p <;> cases q
  · exact br_t (by decide) (nm_r ei (br_t (by decide) (nm_r ej (nm_r (nI_1 st) h))))
  · exact br_t (by decide) (nm_r ei (br_f (by decide) (nm_r ej (nm_r (nI_1 st) h))))
  · exact br_f (by decide) (nm_r ei (br_t (by decide) (nm_r ej (nm_r (nI_1 st) h))))
  · exact br_f (by decide) (nm_r ei (br_f (by decide) (nm_r ej (nm_r (nI_1 st) h))))
theorem jx_152 {post : Int32 → SX → Prop} {J : Int32 → Int32 → Int32 → Int32 → (Nat → Int32) → (Nat → Int32) → (Nat → Int32) → Prop} {x2 x3 x10 x11 : Int32} (h : Nat) (hh : h < 4) (p q : Bool) {i j i' j' : Nat} (n st : Nat) (hn : n < 40) {ai ac am : Nat → Int32} (w : Int32)
    (hw : w = if p = true then x10 else x11) (ei : nI i + jt_b p = nI i') (ej : nI j + jt_b q = nI j')
    (hF : jt_f h p q = false → J (nI i') (nI j') (nI n) (nI (st + 1)) ai ac am) (hT : jt_f h p q = true → J (nI i') (nI j') (nI (n + 1)) (nI (st + 1)) ai ac (upd am n w)) :
    wX_merge_152 post J (nI h) x2 x3 (nI i) (nI j) (nI n) (nI st) (jt_b p) (jt_b q) x10 x11 ai ac am := by
  refine jx_keeps h hh p q ?_
  cases e : jt_f h p q with
  | false => exact br_t (by decide) (jx_185 p q st ei ej (hF e))
  | true =>
    have h2 := hT e
    refine br_f (by decide) ?_
    cases p with
    | false =>
      have e1 : upd am (nI n).toNatClampNeg x11 = upd am n w := by rw [nI_clamp (by omega), hw]; rfl
      exact br_t (by decide) (And.intro (vp_in_nI hn (by decide)) (nm_r e1 (nm_r (nI_1 n) (jx_185 false q st ei ej h2))))
    | true =>
      have e1 : upd am (nI n).toNatClampNeg x10 = upd am n w := by rw [nI_clamp (by omega), hw]; rfl
      exact br_f (by decide) (And.intro (vp_in_nI hn (by decide)) (nm_r e1 (nm_r (nI_1 n) (jx_185 true q st ei ej h2))))
theorem jt_hd (a : Nat → Int32) (b : Nat) {i c : Nat} (h : i < c) : jt_sg a (b + i) (c - i) = a (b + i) :: jt_sg a (b + (i + 1)) (c - (i + 1)) := by
  have e : c - i = (c - (i + 1)) + 1 := by omega
  rw [e, jt_cons]
  rfl
theorem jt_tl0 (a : Nat → Int32) (b : Nat) {i c : Nat} (h : c ≤ i) : jt_sg a (b + i) (c - i) = [] := by
  rw [Nat.sub_eq_zero_of_le h]
  rfl
theorem jx_mgL {ai ac : Nat → Int32} {a b ca cb h : Nat} (ha : a < 4) (hb : b < 4) (hca : ac a = nI ca) (hcb : ac b = nI cb) (la : ca ≤ 20) (lb : cb ≤ 20) (hh : h < 4) (T : List Int32) (post : Int32 → SX → Prop)
    (hp : ∀ m n, n ≤ 40 → jt_sg m 0 n = T → post (nI n) (ai, ac, m)) :
    ∀ d i j n st m, st + d = 40 → i ≤ ca → j ≤ cb → (ca - i) + (cb - j) ≤ d → n ≤ st → jt_sg m 0 n ++ jt_mg (jt_f h) d (jt_sg ai (a * 20 + i) (ca - i)) (jt_sg ai (b * 20 + j) (cb - j)) = T →
      wX_merge_12 post (nI h) (nI a) (nI b) (d + 1) (nI i) (nI j) (nI n) (nI st) ai ac m := by
  intro d
  induction d with
  | zero =>
    intro i j n st m hst hi hj hr hn hT
    refine br_t ?_ (hp m n (by omega) ?_)
    · exact nI_le (a := 40) (by omega) (by omega)
    · rw [← hT]
      exact (List.append_nil _).symm
  | succ d ih =>
    intro i j n st m hst hi hj hr hn hT
    have hadv : ∀ (p q : Bool) (x10 x11 w : Int32) (i' j' : Nat), w = (if p = true then x10 else x11) → nI i + jt_b p = nI i' → nI j + jt_b q = nI j' → i' ≤ ca → j' ≤ cb → (ca - i') + (cb - j') ≤ d →
        jt_mg (jt_f h) (d + 1) (jt_sg ai (a * 20 + i) (ca - i)) (jt_sg ai (b * 20 + j) (cb - j)) = jt_kp (jt_f h p q) w (jt_mg (jt_f h) d (jt_sg ai (a * 20 + i') (ca - i')) (jt_sg ai (b * 20 + j') (cb - j'))) →
        wX_merge_152 post (wX_merge_12 post (nI h) (nI a) (nI b) (d + 1)) (nI h) (nI a) (nI b) (nI i) (nI j) (nI n) (nI st) (jt_b p) (jt_b q) x10 x11 ai ac m := by
      intro p q x10 x11 w i' j' hw ei ej h1 h2 h3 hk
      rw [hk] at hT
      refine jx_152 h hh p q n st (by omega) w hw ei ej (fun e => ?_) (fun e => ?_)
      · rw [e, jt_kpF] at hT
        exact ih _ _ n (st + 1) m (by omega) h1 h2 h3 (by omega) hT
      · rw [e] at hT
        exact ih _ _ (n + 1) (st + 1) _ (by omega) h1 h2 h3 (by omega) ((jt_kpc m n w _).trans hT)
    have g40 : ¬ (40 : Int32) ≤ nI st := nI_ge (b := 40) (by omega) (by decide)
    have va := jt_sv ha
    have vb := jt_sv hb
    have ca1 : ac (nI a).toNatClampNeg ≤ nI i ↔ ca ≤ i := by rw [jt_sc ha, hca, nI_leI (by omega) (by omega)]
    have cb1 : ac (nI b).toNatClampNeg ≤ nI j ↔ cb ≤ j := by rw [jt_sc hb, hcb, nI_leI (by omega) (by omega)]
    have z : ∀ n, nI n + jt_b false = nI n := fun n => Int32.add_zero _
    have o : ∀ n, nI n + jt_b true = nI (n + 1) := fun n => nI_1 n
    by_cases hia : ca ≤ i
    · by_cases hjb : cb ≤ j
      · refine br_f g40 (And.intro va (br_t (ca1.mpr hia) (And.intro vb (br_t (cb1.mpr hjb) (br_t rfl (br_t rfl (hp m n (by omega) ?_)))))))
        rw [jt_tl0 ai (a * 20) hia, jt_tl0 ai (b * 20) hjb, jt_mg00, List.append_nil] at hT
        exact hT
      · refine br_f g40 (And.intro va (br_t (ca1.mpr hia) (And.intro vb (br_f (fun y => hjb (cb1.mp y)) (br_t rfl (br_f (by decide) (br_t rfl (br_f (by decide) (And.intro (jt_ixv (by omega)) ?_)))))))))
        rw [jt_ixc (by omega)]
        refine br_t rfl (hadv false true 0 (ai (b * 20 + j)) (ai (b * 20 + j)) i (j + 1) rfl (z i) (o j) (by omega) (by omega) (by omega) ?_)
        rw [jt_tl0 ai (a * 20) hia, jt_hd ai (b * 20) (Nat.lt_of_not_le hjb), jt_mgB]
    · by_cases hjb : cb ≤ j
      · refine br_f g40 (And.intro va (br_f (fun y => hia (ca1.mp y)) (And.intro vb (br_t (cb1.mpr hjb) (br_f (by decide) (br_f (by decide) (And.intro (jt_ixv (by omega)) (br_t rfl (br_f (by decide) (br_t rfl ?_))))))))))
        rw [jt_ixc (by omega)]
        refine hadv true false (ai (a * 20 + i)) 0 (ai (a * 20 + i)) (i + 1) j rfl (o i) (z j) (by omega) (by omega) (by omega) ?_
        rw [jt_tl0 ai (b * 20) hjb, jt_hd ai (a * 20) (Nat.lt_of_not_le hia), jt_mgA]
      · refine br_f g40 (And.intro va (br_f (fun y => hia (ca1.mp y)) (And.intro vb (br_f (fun y => hjb (cb1.mp y)) (br_f (by decide) (br_f (by decide) (And.intro (jt_ixv (by omega)) (br_f (by decide) (And.intro (jt_ixv (by omega)) (br_f (by decide) (br_f (by decide) ?_)))))))))))
        rw [jt_ixc (s := a) (k := i) (by omega), jt_ixc (s := b) (k := j) (by omega)]
        have hA := jt_hd ai (a * 20) (Nat.lt_of_not_le hia)
        have hB := jt_hd ai (b * 20) (Nat.lt_of_not_le hjb)
        by_cases hyx : ai (b * 20 + j) < ai (a * 20 + i)
        · refine br_t hyx (br_f (Int32.not_lt.mpr (Int32.le_of_lt hyx)) (hadv false true (ai (a * 20 + i)) (ai (b * 20 + j)) (ai (b * 20 + j)) i (j + 1) rfl (z i) (o j) (by omega) (by omega) (by omega) ?_))
          rw [hB, hA, jt_mgg _ d _ _ hyx]
        · by_cases hxy : ai (a * 20 + i) < ai (b * 20 + j)
          · refine br_f hyx (br_t hxy (hadv true false (ai (a * 20 + i)) (ai (b * 20 + j)) (ai (a * 20 + i)) (i + 1) j rfl (o i) (z j) (by omega) (by omega) (by omega) ?_))
            rw [hA, hB, jt_mgl _ d _ _ hxy]
          · refine br_f hyx (br_f hxy (hadv true true (ai (a * 20 + i)) (ai (b * 20 + j)) (ai (a * 20 + i)) (i + 1) (j + 1) rfl (o i) (o j) (by omega) (by omega) (by omega) ?_))
            have e : ai (a * 20 + i) = ai (b * 20 + j) := Int32.le_antisymm (Int32.not_lt.mp hyx) (Int32.not_lt.mp hxy)
            rw [hA, hB, ← e, jt_mge]
theorem jx_merge {ai ac am : Nat → Int32} {a b ca cb : Nat} (h : Nat) (ha : a < 4) (hb : b < 4) (hca : ac a = nI ca) (hcb : ac b = nI cb) (la : ca ≤ 20) (lb : cb ≤ 20) (hh : h < 4)
    (sa : (jt_sg ai (a * 20) ca).Pairwise (· < ·)) (sb : (jt_sg ai (b * 20) cb).Pairwise (· < ·)) {post : Int32 → SX → Prop}
    (hp : ∀ m n, n ≤ 40 → jt_mok (jt_f h) (jt_sg ai (a * 20) ca) (jt_sg ai (b * 20) cb) (jt_sg m 0 n) → post (nI n) (ai, ac, m)) : wpX_merge post (ai, ac, am) (nI h) (nI a) (nI b) := by
  have hk := jt_mgOk (jt_f h) 40 _ _ sa sb (by rw [jt_len, jt_len]; omega)
  have h2 := jx_mgL ha hb hca hcb la lb hh _ post (fun m n h1 e => hp m n h1 (by rw [e]; exact hk)) 40 0 0 0 0 am (by omega) (by omega) (by omega) (by omega) (by omega) rfl
  rw [nI_0] at h2
  exact Exists.intro 41 h2
