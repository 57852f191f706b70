def jt_sg (a : Nat → Int32) (b : Nat) : Nat → List Int32
  | 0 => []
  | n + 1 => jt_sg a b n ++ [a (b + n)]
theorem jt_s0 (a : Nat → Int32) (b : Nat) : jt_sg a b 0 = [] := rfl
theorem jt_sS (a : Nat → Int32) (b n : Nat) : jt_sg a b (n + 1) = jt_sg a b n ++ [a (b + n)] := rfl
theorem jt_len (a : Nat → Int32) (b n : Nat) : (jt_sg a b n).length = n := by
  induction n with
  | zero => rfl
  | succ n ih => rw [jt_sS a b n, List.length_append, ih]; rfl
theorem jt_get (a : Nat → Int32) (b : Nat) : ∀ n i, i < n → (jt_sg a b n)[i]? = some (a (b + i)) := by
  intro n
  induction n with
  | zero => intro i h; omega
  | succ n ih =>
    intro i h
    rw [jt_sS a b n]
    by_cases e : i < n
    · rw [List.getElem?_append_left (by rw [jt_len]; exact e)]
      exact ih i e
    · obtain rfl : i = n := by omega
      rw [List.getElem?_append_right (by rw [jt_len]; exact Nat.le_refl _), jt_len, Nat.sub_self]
      rfl
theorem jt_cons (a : Nat → Int32) (b n : Nat) : jt_sg a b (n + 1) = a b :: jt_sg a (b + 1) n := by
  induction n with
  | zero => rfl
  | succ n ih =>
    have e : b + (n + 1) = b + 1 + n := by omega
    rw [jt_sS a b (n + 1), ih, List.cons_append, jt_sS a (b + 1) n, e]
theorem jt_congr {a a' : Nat → Int32} {b b' : Nat} : ∀ n, (∀ i, i < n → a (b + i) = a' (b' + i)) → jt_sg a b n = jt_sg a' b' n := by
  intro n
  induction n with
  | zero => intro _; rfl
  | succ n ih =>
    intro h
    rw [jt_sS a b n, jt_sS a' b' n, ih (fun i hi => h i (by omega)), h n (by omega)]
theorem jt_mem {a : Nat → Int32} {b n : Nat} {x : Int32} : x ∈ jt_sg a b n ↔ ∃ i, i < n ∧ a (b + i) = x := by
  rw [List.mem_iff_getElem?]
  constructor
  · rintro ⟨i, h⟩
    have hi : i < n := by
      apply Nat.lt_of_not_le
      intro hl
      have h0 : (jt_sg a b n)[i]? = none := List.getElem?_eq_none (by rw [jt_len]; exact hl)
      rw [h0] at h
      cases h
    rw [jt_get a b n i hi] at h
    exact ⟨i, hi, Option.some.inj h⟩
  · rintro ⟨i, hi, rfl⟩
    exact ⟨i, jt_get a b n i hi⟩
theorem jt_add (a : Nat → Int32) (b m n : Nat) : jt_sg a b (m + n) = jt_sg a b m ++ jt_sg a (b + m) n := by
  induction n with
  | zero => exact (List.append_nil _).symm
  | succ n ih =>
    have e : b + (m + n) = b + m + n := by omega
    show jt_sg a b (m + n + 1) = _
    rw [jt_sS a b (m + n), ih, jt_sS a (b + m) n, List.append_assoc, e]
theorem jt_take {a : Nat → Int32} {b n k : Nat} (h : k ≤ n) : (jt_sg a b n).take k = jt_sg a b k := by
  obtain ⟨m, rfl⟩ : ∃ m, n = k + m := ⟨n - k, by omega⟩
  rw [jt_add a b k m, List.take_left' (jt_len a b k)]
theorem jt_drop {a : Nat → Int32} {b n k : Nat} (h : k ≤ n) : (jt_sg a b n).drop k = jt_sg a (b + k) (n - k) := by
  obtain ⟨m, rfl⟩ : ∃ m, n = k + m := ⟨n - k, by omega⟩
  rw [jt_add a b k m, List.drop_left' (jt_len a b k), Nat.add_sub_cancel_left]
theorem jt_spl (p q : Int32 → Bool) (hq : ∀ y, q y = !p y) (hp : ∀ y z, y < z → p z = true → p y = true) :
    ∀ L : List Int32, L.Pairwise (· < ·) → L.filter p = L.take (L.countP p) ∧ L.filter q = L.drop (L.countP p) := by
  intro L
  induction L with
  | nil => intro _; exact ⟨rfl, rfl⟩
  | cons y L ih =>
    intro h
    have h' := List.pairwise_cons.mp h
    obtain ⟨i1, i2⟩ := ih h'.2
    cases e : p y with
    | true =>
      have eq : ¬ (q y = true) := by rw [hq y, e]; decide
      rw [List.filter_cons_of_pos e, List.filter_cons_of_neg eq, List.countP_cons_of_pos e, List.take_succ_cons, List.drop_succ_cons, i1, i2]
      exact ⟨rfl, rfl⟩
    | false =>
      have en : ¬ (p y = true) := by rw [e]; decide
      have eq : q y = true := by rw [hq y, e]; rfl
      have z : L.countP p = 0 := by
        rw [List.countP_eq_zero]
        intro w hw hpw
        exact en (hp y w (h'.1 w hw) hpw)
      rw [z] at i1 i2
      rw [List.filter_cons_of_neg en, List.filter_cons_of_pos eq, List.countP_cons_of_neg en, z, i1, i2]
      exact ⟨by simp, by simp⟩
def jt_l (x y : Int32) : Bool := decide (y < x)
def jt_g (x y : Int32) : Bool := decide (x ≤ y)
def jt_le (x y : Int32) : Bool := decide (y ≤ x)
def jt_gt (x y : Int32) : Bool := decide (x < y)
theorem jt_li {x y : Int32} : jt_l x y = true ↔ y < x := decide_eq_true_iff
theorem jt_gi {x y : Int32} : jt_g x y = true ↔ x ≤ y := decide_eq_true_iff
theorem jt_lei {x y : Int32} : jt_le x y = true ↔ y ≤ x := decide_eq_true_iff
theorem jt_gti {x y : Int32} : jt_gt x y = true ↔ x < y := decide_eq_true_iff
theorem jt_gl (x y : Int32) : jt_g x y = !jt_l x y := by
  unfold jt_g jt_l
  by_cases h : y < x
  · rw [decide_eq_true h, decide_eq_false (Int32.not_le.mpr h)]; rfl
  · rw [decide_eq_false h, decide_eq_true (Int32.not_lt.mp h)]; rfl
theorem jt_gtle (x y : Int32) : jt_gt x y = !jt_le x y := by
  unfold jt_gt jt_le
  by_cases h : y ≤ x
  · rw [decide_eq_true h, decide_eq_false (Int32.not_lt.mpr h)]; rfl
  · rw [decide_eq_false h, decide_eq_true (Int32.not_le.mp h)]; rfl
theorem jt_sl (x : Int32) {L : List Int32} (h : L.Pairwise (· < ·)) : L.filter (jt_l x) = L.take (L.countP (jt_l x)) ∧ L.filter (jt_g x) = L.drop (L.countP (jt_l x)) :=
  jt_spl (jt_l x) (jt_g x) (jt_gl x) (fun _ _ h1 h2 => jt_li.mpr (Int32.lt_trans h1 (jt_li.mp h2))) L h
theorem jt_sle (x : Int32) {L : List Int32} (h : L.Pairwise (· < ·)) : L.filter (jt_le x) = L.take (L.countP (jt_le x)) ∧ L.filter (jt_gt x) = L.drop (L.countP (jt_le x)) :=
  jt_spl (jt_le x) (jt_gt x) (jt_gtle x) (fun _ _ h1 h2 => jt_lei.mpr (Int32.le_of_lt (Int32.lt_of_lt_of_le h1 (jt_lei.mp h2)))) L h
theorem jt_nd {L : List Int32} (h : L.Pairwise (· < ·)) : L.Nodup := List.nodup_iff_pairwise_ne.mpr (h.imp (fun hab => Int32.ne_of_lt hab))
theorem jt_hold {L : List Int32} (h : L.Pairwise (· < ·)) (x : Int32) (hx : x ∈ L) : L[L.countP (jt_l x)]? = some x := by
  have hd := (jt_sl x h).2
  have hm : x ∈ L.filter (jt_g x) := List.mem_filter.mpr ⟨hx, jt_gi.mpr (Int32.le_refl x)⟩
  have hs : (L.filter (jt_g x)).Pairwise (· < ·) := h.filter _
  have hg : ∀ z, z ∈ L.filter (jt_g x) → x ≤ z := fun z hz => jt_gi.mp (List.mem_filter.mp hz).2
  have e0 : L[L.countP (jt_l x)]? = (L.filter (jt_g x))[0]? := by rw [hd, List.getElem?_drop, Nat.add_zero]
  rw [e0]
  revert hm hs hg
  generalize L.filter (jt_g x) = F
  cases F with
  | nil => intro hm; cases hm
  | cons y F =>
    intro hm hs hg
    rcases List.mem_cons.mp hm with e | e
    · rw [e]; rfl
    · have h1 := (List.pairwise_cons.mp hs).1 x e
      have h2 := hg y (List.mem_cons.mpr (Or.inl rfl))
      exact absurd h1 (Int32.not_lt.mpr h2)
theorem jt_rk {L : List Int32} (h : L.Pairwise (· < ·)) {y : Int32} (hy : y ∈ L) {k : Nat} : L.countP (jt_l y) = k ↔ L[k]? = some y := by
  have e := jt_hold h y hy
  constructor
  · intro z; rw [← z]; exact e
  · intro z
    obtain ⟨hk, _⟩ := List.getElem?_eq_some_iff.mp e
    exact (List.getElem?_inj hk (jt_nd h)).mp (e.trans z.symm)
theorem jt_cle (x : Int32) : ∀ L : List Int32, L.countP (jt_le x) = L.countP (jt_l x) + L.count x := by
  intro L
  induction L with
  | nil => rfl
  | cons y L ih =>
    rw [List.countP_cons, List.countP_cons, List.count_cons, ih]
    by_cases e : y = x
    · subst e
      have h1 : jt_le y y = true := jt_lei.mpr (Int32.le_refl y)
      have h2 : ¬ jt_l y y = true := fun z => Int32.lt_irrefl (jt_li.mp z)
      have h3 : (y == y) = true := beq_self_eq_true y
      rw [if_pos h1, if_neg h2, if_pos h3]; omega
    · have h3 : ¬ (y == x) = true := fun z => e (eq_of_beq z)
      by_cases e2 : y < x
      · have h1 : jt_le x y = true := jt_lei.mpr (Int32.le_of_lt e2)
        have h2 : jt_l x y = true := jt_li.mpr e2
        rw [if_pos h1, if_pos h2, if_neg h3]; omega
      · have h1 : ¬ jt_le x y = true := fun z => e (Int32.le_antisymm (jt_lei.mp z) (Int32.not_lt.mp e2))
        have h2 : ¬ jt_l x y = true := fun z => e2 (jt_li.mp z)
        rw [if_neg h1, if_neg h2, if_neg h3]; omega
theorem jt_cle1 {x : Int32} {L : List Int32} (h : L.Pairwise (· < ·)) (hx : x ∈ L) : L.countP (jt_le x) = L.countP (jt_l x) + 1 := by
  rw [jt_cle x L, (jt_nd h).count, if_pos hx]
theorem jt_cle0 {x : Int32} {L : List Int32} (h : L.Pairwise (· < ·)) (hx : ¬ x ∈ L) : L.countP (jt_le x) = L.countP (jt_l x) := by
  rw [jt_cle x L, (jt_nd h).count, if_neg hx, Nat.add_zero]
theorem jt_por (p q r : Int32 → Bool) (hr : ∀ y, r y = (p y || q y)) (hd : ∀ y, p y = true → q y = false) : ∀ L : List Int32, (L.filter r).Perm (L.filter p ++ L.filter q) := by
  intro L
  induction L with
  | nil => exact List.Perm.refl _
  | cons y L ih =>
    cases e : p y with
    | true =>
      have e1 : r y = true := by rw [hr, e]; rfl
      have e2 : ¬ q y = true := by rw [hd y e]; decide
      rw [List.filter_cons_of_pos e1, List.filter_cons_of_pos e, List.filter_cons_of_neg e2]
      exact List.Perm.cons y ih
    | false =>
      have e0 : ¬ p y = true := by rw [e]; decide
      cases f : q y with
      | true =>
        have e1 : r y = true := by rw [hr, e, f]; rfl
        rw [List.filter_cons_of_pos e1, List.filter_cons_of_neg e0, List.filter_cons_of_pos f]
        exact (List.Perm.cons y ih).trans List.perm_middle.symm
      | false =>
        have e1 : ¬ r y = true := by rw [hr, e, f]; decide
        have f0 : ¬ q y = true := by rw [f]; decide
        rw [List.filter_cons_of_neg e1, List.filter_cons_of_neg e0, List.filter_cons_of_neg f0]
        exact ih
def jt_out (lo hi y : Int32) : Bool := jt_l lo y || jt_gt hi y
theorem jt_outi {lo hi y : Int32} : jt_out lo hi y = true ↔ y < lo ∨ hi < y := by
  unfold jt_out
  rw [Bool.or_eq_true, jt_li, jt_gti]
theorem jt_outP {L : List Int32} {lo hi : Int32} (hl : lo ≤ hi) : (L.filter (jt_out lo hi)).Perm (L.filter (jt_l lo) ++ L.filter (jt_gt hi)) := by
  refine jt_por (jt_l lo) (jt_gt hi) (jt_out lo hi) (fun _ => rfl) ?_ L
  intro y hy
  have h1 := jt_li.mp hy
  exact decide_eq_false (Int32.not_lt.mpr (Int32.le_of_lt (Int32.lt_of_lt_of_le h1 hl)))
theorem jt_rng {L : List Int32} (h : L.Pairwise (· < ·)) {lo hi : Int32} (hl : lo ≤ hi) : (L.filter (jt_l lo) ++ L.filter (jt_gt hi)).Pairwise (· < ·) := by
  rw [List.pairwise_append]
  refine ⟨h.filter _, h.filter _, ?_⟩
  intro a ha b hb
  have h1 := jt_li.mp (List.mem_filter.mp ha).2
  have h2 := jt_gti.mp (List.mem_filter.mp hb).2
  exact Int32.lt_trans (Int32.lt_of_lt_of_le h1 hl) h2
theorem jt_insS {L : List Int32} (h : L.Pairwise (· < ·)) {x : Int32} (hx : ¬ x ∈ L) : (L.filter (jt_l x) ++ x :: L.filter (jt_g x)).Pairwise (· < ·) := by
  rw [List.pairwise_append]
  refine ⟨h.filter _, List.pairwise_cons.mpr ⟨?_, h.filter _⟩, ?_⟩
  · intro b hb
    have h2 := List.mem_filter.mp hb
    exact Int32.lt_of_le_of_ne (jt_gi.mp h2.2) (fun e => hx (by rw [e]; exact h2.1))
  · intro a ha b hb
    have h1 := jt_li.mp (List.mem_filter.mp ha).2
    rcases List.mem_cons.mp hb with e | e
    · rw [e]; exact h1
    · exact Int32.lt_of_lt_of_le h1 (jt_gi.mp (List.mem_filter.mp e).2)
theorem jt_insP {L M : List Int32} (h : L.Pairwise (· < ·)) (hp : M.Perm L) (x : Int32) : (M ++ [x]).Perm (L.filter (jt_l x) ++ x :: L.filter (jt_g x)) := by
  have e : L.filter (jt_l x) ++ L.filter (jt_g x) = L := by
    rw [(jt_sl x h).1, (jt_sl x h).2, List.take_append_drop]
  have h1 : (L.filter (jt_l x) ++ x :: L.filter (jt_g x)).Perm (x :: L) := by
    have h2 : (L.filter (jt_l x) ++ x :: L.filter (jt_g x)).Perm (x :: (L.filter (jt_l x) ++ L.filter (jt_g x))) := List.perm_middle
    rw [e] at h2
    exact h2
  exact (List.perm_append_singleton x M).trans ((List.Perm.cons x hp).trans h1.symm)
