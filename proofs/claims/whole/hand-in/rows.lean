section
theorem pk_us {f : Nat → Int32} {k : Nat} {x : Int32} : upd f k x k = x := if_pos rfl
theorem pk_un {f : Nat → Int32} {k j : Nat} {x : Int32} (h : j ≠ k) : upd f k x j = f j := if_neg h
theorem pk_sub {a b : Nat} (h : b ≤ a) : nI a - nI b = nI (a - b) := by
  obtain ⟨c, rfl⟩ : ∃ c, a = c + b := ⟨a - b, by omega⟩
  rw [← nI_add, Int32.add_sub_cancel, Nat.add_sub_cancel]
theorem pk_m1 (n : Nat) : nI (n + 1) + (-1) = nI n := by
  rw [← nI_1, Int32.add_assoc, show (1 : Int32) + (-1) = 0 from rfl, Int32.add_zero]
theorem pk_mul (a b : Nat) : nI a * nI b = nI (a * b) := (Int32.ofNat_mul a b).symm
theorem pk_sub_toInt {a b : Nat} (ha : a < 2 ^ 30) (hb : b < 2 ^ 30) : (nI a - nI b).toInt = (a : Int) - b := by
  rw [Int32.toInt_sub, nI_toInt (by omega), nI_toInt (by omega)]
  exact Int.bmod_eq_of_le (by omega) (by omega)
theorem pk_sneg {a b : Nat} (hb : b < 2 ^ 30) (h : a < b) : nI a - nI b < 0 := by
  rw [Int32.lt_iff_toInt_lt, pk_sub_toInt (by omega) hb, show (0 : Int32).toInt = 0 from by decide]
  omega
theorem pk_ix (x : Int32) {n : Nat} (hn : n < 2 ^ 31) : x < 0 ∨ nI n ≤ x ∨ ∃ j : Nat, j < n ∧ x = nI j := by
  by_cases h : x < 0
  · exact Or.inl h
  · obtain ⟨j, hj, rfl⟩ := nI_of h
    by_cases h2 : j < n
    · exact Or.inr (Or.inr ⟨j, h2, rfl⟩)
    · exact Or.inr (Or.inl (nI_le (by omega) hj))
theorem pk_le {x y : Int32} {A B : Prop} (a b : Nat) (f : a ≤ b → A) (g : b < a → B) (hx : x = nI a := by rfl) (hy : y = nI b := by rfl) (ha : a < 2 ^ 31 := by omega) (hb : b < 2 ^ 31 := by omega) : (x ≤ y → A) ∧ (¬ x ≤ y → B) := by
  subst hx hy
  rw [nI_leI ha hb]
  exact ⟨f, fun z => g (by omega)⟩
theorem pk_lt {x y : Int32} {A B : Prop} (a b : Nat) (f : a < b → A) (g : b ≤ a → B) (hx : x = nI a := by rfl) (hy : y = nI b := by rfl) (ha : a < 2 ^ 31 := by omega) (hb : b < 2 ^ 31 := by omega) : (x < y → A) ∧ (¬ x < y → B) := by
  subst hx hy
  rw [nI_ltI ha hb]
  exact ⟨f, fun z => g (by omega)⟩
theorem pk_eq {x y : Int32} {A B : Prop} (a b : Nat) (f : a = b → A) (g : a ≠ b → B) (hx : x = nI a := by rfl) (hy : y = nI b := by rfl) (ha : a < 2 ^ 31 := by omega) (hb : b < 2 ^ 31 := by omega) : (x = y → A) ∧ (¬ x = y → B) := by
  subst hx hy
  rw [nI_eq ha hb]
  exact ⟨f, g⟩
theorem pk_in {x : Int32} (n N : Nat) (h : n < N) (hx : x = nI n := by rfl) (hN : N < 2 ^ 31 := by omega) : vp_in x N := by
  subst hx
  exact vp_in_nI h hN
theorem pk_cl {x : Int32} (n : Nat) (hx : x = nI n := by rfl) (h : n < 2 ^ 31 := by omega) : x.toNatClampNeg = n := by
  subst hx
  exact nI_clamp h
theorem pk_loop {σ : Type} (W : Nat → Nat → σ → Prop) (I : Nat → σ → Prop) (e i0 : Nat) (s : σ) (hi : i0 ≤ e) (h0 : I i0 s) (hx : ∀ n s, I e s → W (n + 1) e s)
    (hs : ∀ n i s, i < e → I i s → (∀ s', I (i + 1) s' → W n (i + 1) s') → W (n + 1) i s) : ∃ n, W n i0 s :=
  ⟨e + 1, loop_i W I e hx hs (e + 1) i0 s hi (by omega) h0⟩
theorem pk_loopD {σ : Type} (W : Nat → Nat → σ → Prop) (I : Nat → σ → Prop) (hx : ∀ n s, I 0 s → W (n + 1) 0 s)
    (hs : ∀ n i s, I (i + 1) s → (∀ s', I i s' → W n i s') → W (n + 1) (i + 1) s) : ∀ (e : Nat) (s : σ), I e s → W (e + 1) e s := by
  intro e
  induction e with
  | zero => exact fun s h => hx 0 s h
  | succ e ih => exact fun s h => hs (e + 1) e s h (fun s' h' => ih s' h')
theorem lp1 {A1 : Type} (W : Nat → A1 → Prop) (I : A1 → Prop) (μ : A1 → Nat) (hs : ∀ (n : Nat) (a1 : A1), I a1 → (∀ (b1 : A1), I b1 → μ b1 < μ a1 → W n b1) → W (n + 1) a1) (a1 : A1) (h : I a1) : ∃ n, W n a1 :=
  loop_m (σ := A1) (fun n s => W n s) (fun s => I s) (fun s => μ s) (fun n s hI hk => hs n s hI (fun b1 h9 hm => hk b1 h9 hm)) a1 h
theorem lp2 {A1 A2 : Type} (W : Nat → A1 → A2 → Prop) (I : A1 → A2 → Prop) (μ : A1 → A2 → Nat) (hs : ∀ (n : Nat) (a1 : A1) (a2 : A2), I a1 a2 → (∀ (b1 : A1) (b2 : A2), I b1 b2 → μ b1 b2 < μ a1 a2 → W n b1 b2) → W (n + 1) a1 a2) (a1 : A1) (a2 : A2) (h : I a1 a2) : ∃ n, W n a1 a2 :=
  loop_m (σ := A1 × A2) (fun n s => W n s.1 s.2) (fun s => I s.1 s.2) (fun s => μ s.1 s.2) (fun n s hI hk => hs n s.1 s.2 hI (fun b1 b2 h9 hm => hk (b1, b2) h9 hm)) (a1, a2) h
theorem lp3 {A1 A2 A3 : Type} (W : Nat → A1 → A2 → A3 → Prop) (I : A1 → A2 → A3 → Prop) (μ : A1 → A2 → A3 → Nat) (hs : ∀ (n : Nat) (a1 : A1) (a2 : A2) (a3 : A3), I a1 a2 a3 → (∀ (b1 : A1) (b2 : A2) (b3 : A3), I b1 b2 b3 → μ b1 b2 b3 < μ a1 a2 a3 → W n b1 b2 b3) → W (n + 1) a1 a2 a3) (a1 : A1) (a2 : A2) (a3 : A3) (h : I a1 a2 a3) : ∃ n, W n a1 a2 a3 :=
  loop_m (σ := A1 × A2 × A3) (fun n s => W n s.1 s.2.1 s.2.2) (fun s => I s.1 s.2.1 s.2.2) (fun s => μ s.1 s.2.1 s.2.2) (fun n s hI hk => hs n s.1 s.2.1 s.2.2 hI (fun b1 b2 b3 h9 hm => hk (b1, b2, b3) h9 hm)) (a1, a2, a3) h
theorem lp4 {A1 A2 A3 A4 : Type} (W : Nat → A1 → A2 → A3 → A4 → Prop) (I : A1 → A2 → A3 → A4 → Prop) (μ : A1 → A2 → A3 → A4 → Nat) (hs : ∀ (n : Nat) (a1 : A1) (a2 : A2) (a3 : A3) (a4 : A4), I a1 a2 a3 a4 → (∀ (b1 : A1) (b2 : A2) (b3 : A3) (b4 : A4), I b1 b2 b3 b4 → μ b1 b2 b3 b4 < μ a1 a2 a3 a4 → W n b1 b2 b3 b4) → W (n + 1) a1 a2 a3 a4) (a1 : A1) (a2 : A2) (a3 : A3) (a4 : A4) (h : I a1 a2 a3 a4) : ∃ n, W n a1 a2 a3 a4 :=
  loop_m (σ := A1 × A2 × A3 × A4) (fun n s => W n s.1 s.2.1 s.2.2.1 s.2.2.2) (fun s => I s.1 s.2.1 s.2.2.1 s.2.2.2) (fun s => μ s.1 s.2.1 s.2.2.1 s.2.2.2) (fun n s hI hk => hs n s.1 s.2.1 s.2.2.1 s.2.2.2 hI (fun b1 b2 b3 b4 h9 hm => hk (b1, b2, b3, b4) h9 hm)) (a1, a2, a3, a4) h
theorem lp5 {A1 A2 A3 A4 A5 : Type} (W : Nat → A1 → A2 → A3 → A4 → A5 → Prop) (I : A1 → A2 → A3 → A4 → A5 → Prop) (μ : A1 → A2 → A3 → A4 → A5 → Nat) (hs : ∀ (n : Nat) (a1 : A1) (a2 : A2) (a3 : A3) (a4 : A4) (a5 : A5), I a1 a2 a3 a4 a5 → (∀ (b1 : A1) (b2 : A2) (b3 : A3) (b4 : A4) (b5 : A5), I b1 b2 b3 b4 b5 → μ b1 b2 b3 b4 b5 < μ a1 a2 a3 a4 a5 → W n b1 b2 b3 b4 b5) → W (n + 1) a1 a2 a3 a4 a5) (a1 : A1) (a2 : A2) (a3 : A3) (a4 : A4) (a5 : A5) (h : I a1 a2 a3 a4 a5) : ∃ n, W n a1 a2 a3 a4 a5 :=
  loop_m (σ := A1 × A2 × A3 × A4 × A5) (fun n s => W n s.1 s.2.1 s.2.2.1 s.2.2.2.1 s.2.2.2.2) (fun s => I s.1 s.2.1 s.2.2.1 s.2.2.2.1 s.2.2.2.2) (fun s => μ s.1 s.2.1 s.2.2.1 s.2.2.2.1 s.2.2.2.2) (fun n s hI hk => hs n s.1 s.2.1 s.2.2.1 s.2.2.2.1 s.2.2.2.2 hI (fun b1 b2 b3 b4 b5 h9 hm => hk (b1, b2, b3, b4, b5) h9 hm)) (a1, a2, a3, a4, a5) h
theorem lp6 {A1 A2 A3 A4 A5 A6 : Type} (W : Nat → A1 → A2 → A3 → A4 → A5 → A6 → Prop) (I : A1 → A2 → A3 → A4 → A5 → A6 → Prop) (μ : A1 → A2 → A3 → A4 → A5 → A6 → Nat) (hs : ∀ (n : Nat) (a1 : A1) (a2 : A2) (a3 : A3) (a4 : A4) (a5 : A5) (a6 : A6), I a1 a2 a3 a4 a5 a6 → (∀ (b1 : A1) (b2 : A2) (b3 : A3) (b4 : A4) (b5 : A5) (b6 : A6), I b1 b2 b3 b4 b5 b6 → μ b1 b2 b3 b4 b5 b6 < μ a1 a2 a3 a4 a5 a6 → W n b1 b2 b3 b4 b5 b6) → W (n + 1) a1 a2 a3 a4 a5 a6) (a1 : A1) (a2 : A2) (a3 : A3) (a4 : A4) (a5 : A5) (a6 : A6) (h : I a1 a2 a3 a4 a5 a6) : ∃ n, W n a1 a2 a3 a4 a5 a6 :=
  loop_m (σ := A1 × A2 × A3 × A4 × A5 × A6) (fun n s => W n s.1 s.2.1 s.2.2.1 s.2.2.2.1 s.2.2.2.2.1 s.2.2.2.2.2) (fun s => I s.1 s.2.1 s.2.2.1 s.2.2.2.1 s.2.2.2.2.1 s.2.2.2.2.2) (fun s => μ s.1 s.2.1 s.2.2.1 s.2.2.2.1 s.2.2.2.2.1 s.2.2.2.2.2) (fun n s hI hk => hs n s.1 s.2.1 s.2.2.1 s.2.2.2.1 s.2.2.2.2.1 s.2.2.2.2.2 hI (fun b1 b2 b3 b4 b5 b6 h9 hm => hk (b1, b2, b3, b4, b5, b6) h9 hm)) (a1, a2, a3, a4, a5, a6) h
theorem sb_m1 {p : Nat} (h : 0 < p) : nI p + (-1) = nI (p - 1) := by
  obtain ⟨q, rfl⟩ : ∃ q, p = q + 1 := ⟨p - 1, by omega⟩
  exact pk_m1 q
end
section
def jt_sg (a : Nat → Int32) (b : Nat) : Nat → List Int32
  | 0 => []
  | n + 1 => jt_sg a b n ++ [a (b + n)]
theorem jt_s0 (a : Nat → Int32) (b : Nat) : jt_sg a b 0 = [] := rfl
theorem jt_sS (a : Nat → Int32) (b n : Nat) : jt_sg a b (n + 1) = jt_sg a b n ++ [a (b + n)] := rfl
theorem jt_len (a : Nat → Int32) (b n : Nat) : (jt_sg a b n).length = n := by
  induction n with
  | zero => rfl
  | succ n ih => rw [jt_sS a b n, List.length_append, ih]; rfl
theorem jt_get (a : Nat → Int32) (b : Nat) : ∀ n i, i < n → (jt_sg a b n)[i]? = some (a (b + i)) := by
  intro n
  induction n with
  | zero => intro i h; omega
  | succ n ih =>
    intro i h
    rw [jt_sS a b n]
    by_cases e : i < n
    · rw [List.getElem?_append_left (by rw [jt_len]; exact e)]
      exact ih i e
    · obtain rfl : i = n := by omega
      rw [List.getElem?_append_right (by rw [jt_len]; exact Nat.le_refl _), jt_len, Nat.sub_self]
      rfl
theorem jt_cons (a : Nat → Int32) (b n : Nat) : jt_sg a b (n + 1) = a b :: jt_sg a (b + 1) n := by
  induction n with
  | zero => rfl
  | succ n ih =>
    have e : b + (n + 1) = b + 1 + n := by omega
    rw [jt_sS a b (n + 1), ih, List.cons_append, jt_sS a (b + 1) n, e]
theorem jt_congr {a a' : Nat → Int32} {b b' : Nat} : ∀ n, (∀ i, i < n → a (b + i) = a' (b' + i)) → jt_sg a b n = jt_sg a' b' n := by
  intro n
  induction n with
  | zero => intro _; rfl
  | succ n ih =>
    intro h
    rw [jt_sS a b n, jt_sS a' b' n, ih (fun i hi => h i (by omega)), h n (by omega)]
theorem jt_mem {a : Nat → Int32} {b n : Nat} {x : Int32} : x ∈ jt_sg a b n ↔ ∃ i, i < n ∧ a (b + i) = x := by
  rw [List.mem_iff_getElem?]
  constructor
  · rintro ⟨i, h⟩
    have hi : i < n := by
      apply Nat.lt_of_not_le
      intro hl
      have h0 : (jt_sg a b n)[i]? = none := List.getElem?_eq_none (by rw [jt_len]; exact hl)
      rw [h0] at h
      cases h
    rw [jt_get a b n i hi] at h
    exact ⟨i, hi, Option.some.inj h⟩
  · rintro ⟨i, hi, rfl⟩
    exact ⟨i, jt_get a b n i hi⟩
theorem jt_add (a : Nat → Int32) (b m n : Nat) : jt_sg a b (m + n) = jt_sg a b m ++ jt_sg a (b + m) n := by
  induction n with
  | zero => exact (List.append_nil _).symm
  | succ n ih =>
    have e : b + (m + n) = b + m + n := by omega
    show jt_sg a b (m + n + 1) = _
    rw [jt_sS a b (m + n), ih, jt_sS a (b + m) n, List.append_assoc, e]
theorem jt_take {a : Nat → Int32} {b n k : Nat} (h : k ≤ n) : (jt_sg a b n).take k = jt_sg a b k := by
  obtain ⟨m, rfl⟩ : ∃ m, n = k + m := ⟨n - k, by omega⟩
  rw [jt_add a b k m, List.take_left' (jt_len a b k)]
theorem jt_drop {a : Nat → Int32} {b n k : Nat} (h : k ≤ n) : (jt_sg a b n).drop k = jt_sg a (b + k) (n - k) := by
  obtain ⟨m, rfl⟩ : ∃ m, n = k + m := ⟨n - k, by omega⟩
  rw [jt_add a b k m, List.drop_left' (jt_len a b k), Nat.add_sub_cancel_left]
theorem jt_spl (p q : Int32 → Bool) (hq : ∀ y, q y = !p y) (hp : ∀ y z, y < z → p z = true → p y = true) :
    ∀ L : List Int32, L.Pairwise (· < ·) → L.filter p = L.take (L.countP p) ∧ L.filter q = L.drop (L.countP p) := by
  intro L
  induction L with
  | nil => intro _; exact ⟨rfl, rfl⟩
  | cons y L ih =>
    intro h
    have h' := List.pairwise_cons.mp h
    obtain ⟨i1, i2⟩ := ih h'.2
    cases e : p y with
    | true =>
      have eq : ¬ (q y = true) := by rw [hq y, e]; decide
      rw [List.filter_cons_of_pos e, List.filter_cons_of_neg eq, List.countP_cons_of_pos e, List.take_succ_cons, List.drop_succ_cons, i1, i2]
      exact ⟨rfl, rfl⟩
    | false =>
      have en : ¬ (p y = true) := by rw [e]; decide
      have eq : q y = true := by rw [hq y, e]; rfl
      have z : L.countP p = 0 := by
        rw [List.countP_eq_zero]
        intro w hw hpw
        exact en (hp y w (h'.1 w hw) hpw)
      rw [z] at i1 i2
      rw [List.filter_cons_of_neg en, List.filter_cons_of_pos eq, List.countP_cons_of_neg en, z, i1, i2]
      exact ⟨by simp, by simp⟩
def jt_l (x y : Int32) : Bool := decide (y < x)
def jt_g (x y : Int32) : Bool := decide (x ≤ y)
def jt_le (x y : Int32) : Bool := decide (y ≤ x)
def jt_gt (x y : Int32) : Bool := decide (x < y)
theorem jt_li {x y : Int32} : jt_l x y = true ↔ y < x := decide_eq_true_iff
theorem jt_gi {x y : Int32} : jt_g x y = true ↔ x ≤ y := decide_eq_true_iff
theorem jt_lei {x y : Int32} : jt_le x y = true ↔ y ≤ x := decide_eq_true_iff
theorem jt_gti {x y : Int32} : jt_gt x y = true ↔ x < y := decide_eq_true_iff
theorem jt_gl (x y : Int32) : jt_g x y = !jt_l x y := by
  unfold jt_g jt_l
  by_cases h : y < x
  · rw [decide_eq_true h, decide_eq_false (Int32.not_le.mpr h)]; rfl
  · rw [decide_eq_false h, decide_eq_true (Int32.not_lt.mp h)]; rfl
theorem jt_gtle (x y : Int32) : jt_gt x y = !jt_le x y := by
  unfold jt_gt jt_le
  by_cases h : y ≤ x
  · rw [decide_eq_true h, decide_eq_false (Int32.not_lt.mpr h)]; rfl
  · rw [decide_eq_false h, decide_eq_true (Int32.not_le.mp h)]; rfl
theorem jt_sl (x : Int32) {L : List Int32} (h : L.Pairwise (· < ·)) : L.filter (jt_l x) = L.take (L.countP (jt_l x)) ∧ L.filter (jt_g x) = L.drop (L.countP (jt_l x)) :=
  jt_spl (jt_l x) (jt_g x) (jt_gl x) (fun _ _ h1 h2 => jt_li.mpr (Int32.lt_trans h1 (jt_li.mp h2))) L h
theorem jt_sle (x : Int32) {L : List Int32} (h : L.Pairwise (· < ·)) : L.filter (jt_le x) = L.take (L.countP (jt_le x)) ∧ L.filter (jt_gt x) = L.drop (L.countP (jt_le x)) :=
  jt_spl (jt_le x) (jt_gt x) (jt_gtle x) (fun _ _ h1 h2 => jt_lei.mpr (Int32.le_of_lt (Int32.lt_of_lt_of_le h1 (jt_lei.mp h2)))) L h
theorem jt_nd {L : List Int32} (h : L.Pairwise (· < ·)) : L.Nodup := List.nodup_iff_pairwise_ne.mpr (h.imp (fun hab => Int32.ne_of_lt hab))
theorem jt_hold {L : List Int32} (h : L.Pairwise (· < ·)) (x : Int32) (hx : x ∈ L) : L[L.countP (jt_l x)]? = some x := by
  have hd := (jt_sl x h).2
  have hm : x ∈ L.filter (jt_g x) := List.mem_filter.mpr ⟨hx, jt_gi.mpr (Int32.le_refl x)⟩
  have hs : (L.filter (jt_g x)).Pairwise (· < ·) := h.filter _
  have hg : ∀ z, z ∈ L.filter (jt_g x) → x ≤ z := fun z hz => jt_gi.mp (List.mem_filter.mp hz).2
  have e0 : L[L.countP (jt_l x)]? = (L.filter (jt_g x))[0]? := by rw [hd, List.getElem?_drop, Nat.add_zero]
  rw [e0]
  revert hm hs hg
  generalize L.filter (jt_g x) = F
  cases F with
  | nil => intro hm; cases hm
  | cons y F =>
    intro hm hs hg
    rcases List.mem_cons.mp hm with e | e
    · rw [e]; rfl
    · have h1 := (List.pairwise_cons.mp hs).1 x e
      have h2 := hg y (List.mem_cons.mpr (Or.inl rfl))
      exact absurd h1 (Int32.not_lt.mpr h2)
theorem jt_rk {L : List Int32} (h : L.Pairwise (· < ·)) {y : Int32} (hy : y ∈ L) {k : Nat} : L.countP (jt_l y) = k ↔ L[k]? = some y := by
  have e := jt_hold h y hy
  constructor
  · intro z; rw [← z]; exact e
  · intro z
    obtain ⟨hk, _⟩ := List.getElem?_eq_some_iff.mp e
    exact (List.getElem?_inj hk (jt_nd h)).mp (e.trans z.symm)
theorem jt_cle (x : Int32) : ∀ L : List Int32, L.countP (jt_le x) = L.countP (jt_l x) + L.count x := by
  intro L
  induction L with
  | nil => rfl
  | cons y L ih =>
    rw [List.countP_cons, List.countP_cons, List.count_cons, ih]
    by_cases e : y = x
    · subst e
      have h1 : jt_le y y = true := jt_lei.mpr (Int32.le_refl y)
      have h2 : ¬ jt_l y y = true := fun z => Int32.lt_irrefl (jt_li.mp z)
      have h3 : (y == y) = true := beq_self_eq_true y
      rw [if_pos h1, if_neg h2, if_pos h3]; omega
    · have h3 : ¬ (y == x) = true := fun z => e (eq_of_beq z)
      by_cases e2 : y < x
      · have h1 : jt_le x y = true := jt_lei.mpr (Int32.le_of_lt e2)
        have h2 : jt_l x y = true := jt_li.mpr e2
        rw [if_pos h1, if_pos h2, if_neg h3]; omega
      · have h1 : ¬ jt_le x y = true := fun z => e (Int32.le_antisymm (jt_lei.mp z) (Int32.not_lt.mp e2))
        have h2 : ¬ jt_l x y = true := fun z => e2 (jt_li.mp z)
        rw [if_neg h1, if_neg h2, if_neg h3]; omega
theorem jt_cle1 {x : Int32} {L : List Int32} (h : L.Pairwise (· < ·)) (hx : x ∈ L) : L.countP (jt_le x) = L.countP (jt_l x) + 1 := by
  rw [jt_cle x L, (jt_nd h).count, if_pos hx]
theorem jt_cle0 {x : Int32} {L : List Int32} (h : L.Pairwise (· < ·)) (hx : ¬ x ∈ L) : L.countP (jt_le x) = L.countP (jt_l x) := by
  rw [jt_cle x L, (jt_nd h).count, if_neg hx, Nat.add_zero]
theorem jt_por (p q r : Int32 → Bool) (hr : ∀ y, r y = (p y || q y)) (hd : ∀ y, p y = true → q y = false) : ∀ L : List Int32, (L.filter r).Perm (L.filter p ++ L.filter q) := by
  intro L
  induction L with
  | nil => exact List.Perm.refl _
  | cons y L ih =>
    cases e : p y with
    | true =>
      have e1 : r y = true := by rw [hr, e]; rfl
      have e2 : ¬ q y = true := by rw [hd y e]; decide
      rw [List.filter_cons_of_pos e1, List.filter_cons_of_pos e, List.filter_cons_of_neg e2]
      exact List.Perm.cons y ih
    | false =>
      have e0 : ¬ p y = true := by rw [e]; decide
      cases f : q y with
      | true =>
        have e1 : r y = true := by rw [hr, e, f]; rfl
        rw [List.filter_cons_of_pos e1, List.filter_cons_of_neg e0, List.filter_cons_of_pos f]
        exact (List.Perm.cons y ih).trans List.perm_middle.symm
      | false =>
        have e1 : ¬ r y = true := by rw [hr, e, f]; decide
        have f0 : ¬ q y = true := by rw [f]; decide
        rw [List.filter_cons_of_neg e1, List.filter_cons_of_neg e0, List.filter_cons_of_neg f0]
        exact ih
def jt_out (lo hi y : Int32) : Bool := jt_l lo y || jt_gt hi y
theorem jt_outi {lo hi y : Int32} : jt_out lo hi y = true ↔ y < lo ∨ hi < y := by
  unfold jt_out
  rw [Bool.or_eq_true, jt_li, jt_gti]
theorem jt_outP {L : List Int32} {lo hi : Int32} (hl : lo ≤ hi) : (L.filter (jt_out lo hi)).Perm (L.filter (jt_l lo) ++ L.filter (jt_gt hi)) := by
  refine jt_por (jt_l lo) (jt_gt hi) (jt_out lo hi) (fun _ => rfl) ?_ L
  intro y hy
  have h1 := jt_li.mp hy
  exact decide_eq_false (Int32.not_lt.mpr (Int32.le_of_lt (Int32.lt_of_lt_of_le h1 hl)))
theorem jt_rng {L : List Int32} (h : L.Pairwise (· < ·)) {lo hi : Int32} (hl : lo ≤ hi) : (L.filter (jt_l lo) ++ L.filter (jt_gt hi)).Pairwise (· < ·) := by
  rw [List.pairwise_append]
  refine ⟨h.filter _, h.filter _, ?_⟩
  intro a ha b hb
  have h1 := jt_li.mp (List.mem_filter.mp ha).2
  have h2 := jt_gti.mp (List.mem_filter.mp hb).2
  exact Int32.lt_trans (Int32.lt_of_lt_of_le h1 hl) h2
theorem jt_insS {L : List Int32} (h : L.Pairwise (· < ·)) {x : Int32} (hx : ¬ x ∈ L) : (L.filter (jt_l x) ++ x :: L.filter (jt_g x)).Pairwise (· < ·) := by
  rw [List.pairwise_append]
  refine ⟨h.filter _, List.pairwise_cons.mpr ⟨?_, h.filter _⟩, ?_⟩
  · intro b hb
    have h2 := List.mem_filter.mp hb
    exact Int32.lt_of_le_of_ne (jt_gi.mp h2.2) (fun e => hx (by rw [e]; exact h2.1))
  · intro a ha b hb
    have h1 := jt_li.mp (List.mem_filter.mp ha).2
    rcases List.mem_cons.mp hb with e | e
    · rw [e]; exact h1
    · exact Int32.lt_of_lt_of_le h1 (jt_gi.mp (List.mem_filter.mp e).2)
theorem jt_insP {L M : List Int32} (h : L.Pairwise (· < ·)) (hp : M.Perm L) (x : Int32) : (M ++ [x]).Perm (L.filter (jt_l x) ++ x :: L.filter (jt_g x)) := by
  have e : L.filter (jt_l x) ++ L.filter (jt_g x) = L := by
    rw [(jt_sl x h).1, (jt_sl x h).2, List.take_append_drop]
  have h1 : (L.filter (jt_l x) ++ x :: L.filter (jt_g x)).Perm (x :: L) := by
    have h2 : (L.filter (jt_l x) ++ x :: L.filter (jt_g x)).Perm (x :: (L.filter (jt_l x) ++ L.filter (jt_g x))) := List.perm_middle
    rw [e] at h2
    exact h2
  exact (List.perm_append_singleton x M).trans ((List.Perm.cons x hp).trans h1.symm)
end
section
def jt_has (A : List Int32) (z : Int32) : Bool := decide (z ∈ A)
theorem jt_hasi {A : List Int32} {z : Int32} : jt_has A z = true ↔ z ∈ A := decide_eq_true_iff
theorem jt_hasc {A B : List Int32} {z : Int32} (h : z ∈ A ↔ z ∈ B) : jt_has A z = jt_has B z := decide_eq_decide.mpr h
theorem jt_hasb {A : List Int32} {z : Int32} {b : Bool} (h : z ∈ A ↔ b = true) : jt_has A z = b := by
  cases b with
  | true => exact jt_hasi.mpr (h.mpr rfl)
  | false => exact decide_eq_false (fun hz => absurd (h.mp hz) (by decide))
def jt_kp (b : Bool) (x : Int32) (l : List Int32) : List Int32 := if b = true then x :: l else l
theorem jt_kpT (x : Int32) (l : List Int32) : jt_kp true x l = x :: l := rfl
theorem jt_kpF (x : Int32) (l : List Int32) : jt_kp false x l = l := rfl
def jt_mg (f : Bool → Bool → Bool) : Nat → List Int32 → List Int32 → List Int32
  | 0, _, _ => []
  | _ + 1, [], [] => []
  | n + 1, x :: A, [] => jt_kp (f true false) x (jt_mg f n A [])
  | n + 1, [], y :: B => jt_kp (f false true) y (jt_mg f n [] B)
  | n + 1, x :: A, y :: B =>
    if x < y then jt_kp (f true false) x (jt_mg f n A (y :: B))
    else if y < x then jt_kp (f false true) y (jt_mg f n (x :: A) B)
    else jt_kp (f true true) x (jt_mg f n A B)
theorem jt_mg00 (f : Bool → Bool → Bool) (n : Nat) : jt_mg f n [] [] = [] := by
  cases n <;> rfl
theorem jt_mgA (f : Bool → Bool → Bool) (n : Nat) (x : Int32) (A : List Int32) : jt_mg f (n + 1) (x :: A) [] = jt_kp (f true false) x (jt_mg f n A []) := rfl
theorem jt_mgB (f : Bool → Bool → Bool) (n : Nat) (y : Int32) (B : List Int32) : jt_mg f (n + 1) [] (y :: B) = jt_kp (f false true) y (jt_mg f n [] B) := rfl
theorem jt_mgl (f : Bool → Bool → Bool) (n : Nat) {x y : Int32} (A B : List Int32) (h : x < y) : jt_mg f (n + 1) (x :: A) (y :: B) = jt_kp (f true false) x (jt_mg f n A (y :: B)) := by
  show (if x < y then _ else _) = _
  rw [if_pos h]
theorem jt_mgg (f : Bool → Bool → Bool) (n : Nat) {x y : Int32} (A B : List Int32) (h : y < x) : jt_mg f (n + 1) (x :: A) (y :: B) = jt_kp (f false true) y (jt_mg f n (x :: A) B) := by
  show (if x < y then _ else if y < x then _ else _) = _
  rw [if_neg (Int32.not_lt.mpr (Int32.le_of_lt h)), if_pos h]
theorem jt_mge (f : Bool → Bool → Bool) (n : Nat) (x : Int32) (A B : List Int32) : jt_mg f (n + 1) (x :: A) (x :: B) = jt_kp (f true true) x (jt_mg f n A B) := by
  show (if x < x then _ else if x < x then _ else _) = _
  rw [if_neg Int32.lt_irrefl, if_neg Int32.lt_irrefl]
def jt_mok (f : Bool → Bool → Bool) (A B T : List Int32) : Prop := T.Pairwise (· < ·) ∧ ∀ z, z ∈ T ↔ (z ∈ A ∨ z ∈ B) ∧ f (jt_has A z) (jt_has B z) = true
theorem jt_step (f : Bool → Bool → Bool) (wa wb : Bool) (w : Int32) (A B A' B' T : List Int32) (hA : ∀ z, z ∈ A ↔ (wa = true ∧ z = w) ∨ z ∈ A') (hB : ∀ z, z ∈ B ↔ (wb = true ∧ z = w) ∨ z ∈ B') (hw : wa = true ∨ wb = true)
    (h1 : ∀ z, z ∈ A' → w < z) (h2 : ∀ z, z ∈ B' → w < z) (hT : jt_mok f A' B' T) : jt_mok f A B (jt_kp (f wa wb) w T) := by
  have hTw : ∀ z, z ∈ T → w < z := by
    intro z hz
    rcases ((hT.2 z).mp hz).1 with h | h
    · exact h1 z h
    · exact h2 z h
  have nA : ¬ w ∈ A' := fun h => Int32.lt_irrefl (h1 w h)
  have nB : ¬ w ∈ B' := fun h => Int32.lt_irrefl (h2 w h)
  have nT : ¬ w ∈ T := fun h => Int32.lt_irrefl (hTw w h)
  have wA : w ∈ A ↔ wa = true := by
    rw [hA w]
    exact ⟨fun h => h.elim (fun q => q.1) (fun q => absurd q nA), fun h => Or.inl ⟨h, rfl⟩⟩
  have wB : w ∈ B ↔ wb = true := by
    rw [hB w]
    exact ⟨fun h => h.elim (fun q => q.1) (fun q => absurd q nB), fun h => Or.inl ⟨h, rfl⟩⟩
  have eA : jt_has A w = wa := jt_hasb wA
  have eB : jt_has B w = wb := jt_hasb wB
  have eW : (w ∈ A ∨ w ∈ B) ∧ f (jt_has A w) (jt_has B w) = true ↔ f wa wb = true := by
    rw [eA, eB, wA, wB]
    exact ⟨fun h => h.2, fun h => ⟨hw, h⟩⟩
  have eZ : ∀ z, z ≠ w → ((z ∈ A ∨ z ∈ B) ∧ f (jt_has A z) (jt_has B z) = true ↔ z ∈ T) := by
    intro z hz
    have qA : z ∈ A ↔ z ∈ A' := by
      rw [hA z]
      exact ⟨fun h => h.elim (fun q => absurd q.2 hz) id, Or.inr⟩
    have qB : z ∈ B ↔ z ∈ B' := by
      rw [hB z]
      exact ⟨fun h => h.elim (fun q => absurd q.2 hz) id, Or.inr⟩
    rw [hT.2 z, jt_hasc qA, jt_hasc qB, qA, qB]
  cases e : f wa wb with
  | true =>
    rw [jt_kpT]
    refine ⟨List.pairwise_cons.mpr ⟨hTw, hT.1⟩, fun z => ?_⟩
    rw [List.mem_cons]
    by_cases hz : z = w
    · subst hz
      rw [eW, e]
      exact ⟨fun _ => rfl, fun _ => Or.inl rfl⟩
    · rw [eZ z hz]
      exact ⟨fun h => h.elim (fun q => absurd q hz) id, Or.inr⟩
  | false =>
    rw [jt_kpF]
    refine ⟨hT.1, fun z => ?_⟩
    by_cases hz : z = w
    · subst hz
      rw [eW, e]
      exact ⟨fun h => absurd h nT, fun h => absurd h (by decide)⟩
    · exact (eZ z hz).symm
theorem jt_inT {w : Int32} {A : List Int32} : ∀ z, z ∈ w :: A ↔ (true = true ∧ z = w) ∨ z ∈ A := by
  intro z
  rw [List.mem_cons]
  exact ⟨fun h => h.elim (fun q => Or.inl ⟨rfl, q⟩) Or.inr, fun h => h.elim (fun q => Or.inl q.2) Or.inr⟩
theorem jt_inF {w : Int32} {A : List Int32} : ∀ z, z ∈ A ↔ (false = true ∧ z = w) ∨ z ∈ A := by
  intro z
  exact ⟨Or.inr, fun h => h.elim (fun q => absurd q.1 (by decide)) id⟩
theorem jt_mgOk (f : Bool → Bool → Bool) : ∀ (n : Nat) (A B : List Int32), A.Pairwise (· < ·) → B.Pairwise (· < ·) → A.length + B.length ≤ n → jt_mok f A B (jt_mg f n A B) := by
  have h00 : jt_mok f [] [] [] := ⟨List.Pairwise.nil, fun z => ⟨fun h => (nomatch h), fun h => h.1.elim (fun q => (nomatch q)) (fun q => (nomatch q))⟩⟩
  have hn : ∀ w z : Int32, z ∈ ([] : List Int32) → w < z := fun _ _ h => (nomatch h)
  intro n
  induction n with
  | zero =>
    intro A B _ _ hl
    cases A with
    | nil =>
      cases B with
      | nil => exact h00
      | cons y B => rw [List.length_cons] at hl; omega
    | cons x A => rw [List.length_cons] at hl; omega
  | succ n ih =>
    intro A B hA hB hl
    cases A with
    | nil =>
      cases B with
      | nil => exact h00
      | cons y B =>
        have hB' := List.pairwise_cons.mp hB
        rw [List.length_cons] at hl
        rw [jt_mgB]
        exact jt_step f false true y [] (y :: B) [] B _ jt_inF jt_inT (Or.inr rfl) (hn y) hB'.1 (ih [] B hA hB'.2 (by omega))
    | cons x A =>
      have hA' := List.pairwise_cons.mp hA
      cases B with
      | nil =>
        rw [List.length_cons] at hl
        rw [jt_mgA]
        exact jt_step f true false x (x :: A) [] A [] _ jt_inT jt_inF (Or.inl rfl) hA'.1 (hn x) (ih A [] hA'.2 hB (by omega))
      | cons y B =>
        have hB' := List.pairwise_cons.mp hB
        have l1 : (x :: A).length = A.length + 1 := List.length_cons
        have l2 : (y :: B).length = B.length + 1 := List.length_cons
        by_cases h : x < y
        · rw [jt_mgl f n A B h]
          refine jt_step f true false x (x :: A) (y :: B) A (y :: B) _ jt_inT jt_inF (Or.inl rfl) hA'.1 ?_ (ih A (y :: B) hA'.2 hB (by omega))
          intro z hz
          rcases List.mem_cons.mp hz with e | e
          · rw [e]; exact h
          · exact Int32.lt_trans h (hB'.1 z e)
        · by_cases h2 : y < x
          · rw [jt_mgg f n A B h2]
            refine jt_step f false true y (x :: A) (y :: B) (x :: A) B _ jt_inF jt_inT (Or.inr rfl) ?_ hB'.1 (ih (x :: A) B hA hB'.2 (by omega))
            intro z hz
            rcases List.mem_cons.mp hz with e | e
            · rw [e]; exact h2
            · exact Int32.lt_trans h2 (hA'.1 z e)
          · have e : x = y := Int32.le_antisymm (Int32.not_lt.mp h2) (Int32.not_lt.mp h)
            subst e
            rw [jt_mge f n x A B]
            exact jt_step f true true x (x :: A) (x :: B) A B _ jt_inT jt_inT (Or.inl rfl) hA'.1 hB'.1 (ih A B hA'.2 hB'.2 (by omega))
theorem jt_mgLen (f : Bool → Bool → Bool) : ∀ (n : Nat) (A B : List Int32), (jt_mg f n A B).length ≤ n := by
  have hk : ∀ (b : Bool) (w : Int32) (T : List Int32) (n : Nat), T.length ≤ n → (jt_kp b w T).length ≤ n + 1 := by
    intro b w T n h
    cases b with
    | true => rw [jt_kpT, List.length_cons]; omega
    | false => rw [jt_kpF]; omega
  intro n
  induction n with
  | zero => intro A B; exact Nat.le_refl _
  | succ n ih =>
    intro A B
    cases A with
    | nil =>
      cases B with
      | nil => exact Nat.zero_le _
      | cons y B => rw [jt_mgB]; exact hk _ _ _ _ (ih _ _)
    | cons x A =>
      cases B with
      | nil => rw [jt_mgA]; exact hk _ _ _ _ (ih _ _)
      | cons y B =>
        by_cases h : x < y
        · rw [jt_mgl f n A B h]; exact hk _ _ _ _ (ih _ _)
        · by_cases h2 : y < x
          · rw [jt_mgg f n A B h2]; exact hk _ _ _ _ (ih _ _)
          · have e : x = y := Int32.le_antisymm (Int32.not_lt.mp h2) (Int32.not_lt.mp h)
            subst e
            rw [jt_mge f n x A B]; exact hk _ _ _ _ (ih _ _)
def jt_f (h : Nat) (p q : Bool) : Bool := if h = 0 then p || q else if h = 1 then p && q else if h = 2 then p && !q else p != q
theorem jt_len0 {L : List Int32} : L.length = 0 ↔ ∀ z, ¬ z ∈ L := by
  rw [List.length_eq_zero_iff, List.eq_nil_iff_forall_not_mem]
theorem jt_less {A B T : List Int32} (h : jt_mok (jt_f 2) A B T) : T.length = 0 ↔ ∀ z, z ∈ A → z ∈ B := by
  rw [jt_len0]
  constructor
  · intro ht z hz
    apply Decidable.byContradiction
    intro hb
    apply ht z
    rw [h.2 z, jt_hasi.mpr hz, jt_hasb (b := false) ⟨fun q => absurd q hb, fun q => absurd q (by decide)⟩]
    exact ⟨Or.inl hz, rfl⟩
  · intro ha z hz
    have h1 := (h.2 z).mp hz
    by_cases za : z ∈ A
    · have h2 := h1.2
      rw [jt_hasi.mpr za, jt_hasi.mpr (ha z za)] at h2
      exact absurd h2 (by decide)
    · have h2 := h1.2
      rw [jt_hasb (A := A) (b := false) ⟨fun q => absurd q za, fun q => absurd q (by decide)⟩] at h2
      revert h2
      cases jt_has B z <;> decide
theorem jt_eith {A B T : List Int32} (h : jt_mok (jt_f 3) A B T) : T.length = 0 ↔ (∀ z, z ∈ A → z ∈ B) ∧ (∀ z, z ∈ B → z ∈ A) := by
  have hf : ∀ {A : List Int32} {z : Int32}, ¬ z ∈ A → jt_has A z = false := fun hz => jt_hasb ⟨fun q => absurd q hz, fun q => absurd q (by decide)⟩
  rw [jt_len0]
  constructor
  · intro ht
    constructor
    · intro z hz
      apply Decidable.byContradiction
      intro hb
      apply ht z
      rw [h.2 z, jt_hasi.mpr hz, hf hb]
      exact ⟨Or.inl hz, rfl⟩
    · intro z hz
      apply Decidable.byContradiction
      intro hb
      apply ht z
      rw [h.2 z, jt_hasi.mpr hz, hf hb]
      exact ⟨Or.inr hz, rfl⟩
  · intro ha z hz
    have h1 := (h.2 z).mp hz
    have h2 := h1.2
    by_cases za : z ∈ A
    · rw [jt_hasi.mpr za, jt_hasi.mpr (ha.1 z za)] at h2
      exact absurd h2 (by decide)
    · rw [hf za, hf (fun q => za (ha.2 z q))] at h2
      exact absurd h2 (by decide)
end
section
def jt_R (ai ac bi bc : Nat → Int32) (c : Nat → Nat) : Prop := ∀ s, s < 4 → ac s = nI (c s) ∧ bc s = nI (c s) ∧ c s ≤ 20 ∧ (jt_sg ai (s * 20) (c s)).Pairwise (· < ·) ∧ (jt_sg bi (s * 20) (c s)).Perm (jt_sg ai (s * 20) (c s))
def jt_off (d : Nat) (a' a : Nat → Int32) : Prop := ∀ j, (j < d * 20 ∨ d * 20 + 20 ≤ j) → a' j = a j
theorem jt_off0 (d : Nat) (a : Nat → Int32) : jt_off d a a := fun _ _ => rfl
theorem jt_offT {d : Nat} {a b c : Nat → Int32} (h : jt_off d a b) (g : jt_off d b c) : jt_off d a c := fun j hj => (h j hj).trans (g j hj)
theorem jt_offsg {d s n : Nat} {a' a : Nat → Int32} (h : jt_off d a' a) (hs : s ≠ d) (hn : n ≤ 20) : jt_sg a' (s * 20) n = jt_sg a (s * 20) n :=
  jt_congr n (fun i hi => h (s * 20 + i) (by omega))
theorem jt_put {ai ac bi bc ai' bi' : Nat → Int32} {c : Nat → Nat} (R : jt_R ai ac bi bc c) {d n : Nat} (hn : n ≤ 20) (hx : jt_off d ai' ai) (hy : jt_off d bi' bi)
    (hs : (jt_sg ai' (d * 20) n).Pairwise (· < ·)) (hp : (jt_sg bi' (d * 20) n).Perm (jt_sg ai' (d * 20) n)) : ∃ c', jt_R ai' (upd ac d (nI n)) bi' (upd bc d (nI n)) c' := by
  refine ⟨fun s => if s = d then n else c s, fun s h4 => ?_⟩
  show upd ac d (nI n) s = nI (if s = d then n else c s) ∧ upd bc d (nI n) s = nI (if s = d then n else c s) ∧ (if s = d then n else c s) ≤ 20 ∧ (jt_sg ai' (s * 20) (if s = d then n else c s)).Pairwise (· < ·) ∧ (jt_sg bi' (s * 20) (if s = d then n else c s)).Perm (jt_sg ai' (s * 20) (if s = d then n else c s))
  by_cases e : s = d
  · rw [if_pos e]
    subst e
    rw [pk_us, pk_us]
    exact ⟨rfl, rfl, hn, hs, hp⟩
  · have h20 := (R s h4).2.2.1
    rw [if_neg e, pk_un e, pk_un e, jt_offsg hx e h20, jt_offsg hy e h20]
    exact R s h4
theorem jt_updu (a : Nat → Int32) (s : Nat) (x y : Int32) : upd (upd a s x) s y = upd a s y := by
  funext j
  by_cases e : j = s
  · subst e; rw [pk_us, pk_us]
  · rw [pk_un e, pk_un e, pk_un e]
theorem jt_updc (a : Nat → Int32) {s d : Nat} (h : s ≠ d) (x y : Int32) : upd (upd a d x) s y = upd (upd a s y) d x := by
  funext j
  by_cases e : j = s
  · subst e; rw [pk_us, pk_un h, pk_us]
  · by_cases e2 : j = d
    · subst e2; rw [pk_un e, pk_us, pk_us]
    · rw [pk_un e, pk_un e2, pk_un e2, pk_un e]
def jt_Ins (b c i : Nat) (a' a : Nat → Int32) : Prop := (∀ j, (j ≤ b + i ∨ b + c < j) → a' j = a j) ∧ (∀ t, i ≤ t → t < c → a' (b + t + 1) = a (b + t))
theorem jt_Ins0 (b c : Nat) (a : Nat → Int32) : jt_Ins b c c a a := ⟨fun _ _ => rfl, fun t h1 h2 => by omega⟩
theorem jt_InsS {b c i : Nat} {a' a : Nat → Int32} (h : jt_Ins b c (i + 1) a' a) (hi : i < c) : jt_Ins b c i (upd a' (b + i + 1) (a' (b + i))) a := by
  constructor
  · intro j hj
    rw [pk_un (by omega)]
    exact h.1 j (by omega)
  · intro t h1 h2
    by_cases e : t = i
    · subst e
      rw [pk_us]
      exact h.1 (b + t) (by omega)
    · rw [pk_un (by omega)]
      exact h.2 t (by omega) h2
theorem jt_InsE {b c k : Nat} {a' a : Nat → Int32} (h : jt_Ins b c k a' a) (hk : k ≤ c) (x : Int32) : jt_sg (upd a' (b + k) x) b (c + 1) = jt_sg a b k ++ x :: jt_sg a (b + k) (c - k) := by
  have e : c + 1 = k + ((c - k) + 1) := by omega
  have e1 : jt_sg (upd a' (b + k) x) b k = jt_sg a b k := jt_congr k (fun i hi => by rw [pk_un (by omega)]; exact h.1 _ (by omega))
  have e2 : jt_sg (upd a' (b + k) x) (b + k + 1) (c - k) = jt_sg a (b + k) (c - k) := jt_congr (c - k) (fun i hi => by
    rw [pk_un (by omega)]
    have h2 := h.2 (k + i) (by omega) (by omega)
    rw [show b + k + 1 + i = b + (k + i) + 1 by omega, h2, Nat.add_assoc])
  rw [e, jt_add, jt_cons, e1, e2, pk_us]
def jt_Cut (b fr g i : Nat) (a' a : Nat → Int32) : Prop := (∀ j, (j < b + fr ∨ b + i ≤ j) → a' j = a j) ∧ (∀ t, fr ≤ t → t < i → a' (b + t) = a (b + t + g))
theorem jt_Cut0 (b fr g : Nat) (a : Nat → Int32) : jt_Cut b fr g fr a a := ⟨fun _ _ => rfl, fun t h1 h2 => by omega⟩
theorem jt_CutS {b fr g i : Nat} {a' a : Nat → Int32} (h : jt_Cut b fr g i a' a) (hi : fr ≤ i) : jt_Cut b fr g (i + 1) (upd a' (b + i) (a' (b + i + g))) a := by
  constructor
  · intro j hj
    rw [pk_un (by omega)]
    exact h.1 j (by omega)
  · intro t h1 h2
    by_cases e : t = i
    · subst e
      rw [pk_us]
      exact h.1 _ (by omega)
    · rw [pk_un (by omega)]
      exact h.2 t h1 (by omega)
theorem jt_CutE {b fr g n : Nat} {a' a : Nat → Int32} (h : jt_Cut b fr g n a' a) (hf : fr ≤ n) : jt_sg a' b n = jt_sg a b fr ++ jt_sg a (b + fr + g) (n - fr) := by
  have e : n = fr + (n - fr) := by omega
  have e1 : jt_sg a' b fr = jt_sg a b fr := jt_congr fr (fun i hi => h.1 _ (by omega))
  have e2 : jt_sg a' (b + fr) (n - fr) = jt_sg a (b + fr + g) (n - fr) := jt_congr (n - fr) (fun i hi => by
    have h2 := h.2 (fr + i) (by omega) (by omega)
    rw [show b + fr + i = b + (fr + i) by omega, h2, show b + fr + g + i = b + (fr + i) + g by omega])
  have e3 := jt_add a' b fr (n - fr)
  rw [← e] at e3
  rw [e3, e1, e2]
def jt_Cpy (b q i : Nat) (m a' a : Nat → Int32) : Prop := (∀ j, (j < b ∨ b + i ≤ j) → a' j = a j) ∧ (∀ t, t < i → a' (b + t) = m (q + t))
theorem jt_Cpy0 (b q : Nat) (m a : Nat → Int32) : jt_Cpy b q 0 m a a := ⟨fun _ _ => rfl, fun t h => by omega⟩
theorem jt_CpyS {b q i : Nat} {m a' a : Nat → Int32} (h : jt_Cpy b q i m a' a) : jt_Cpy b q (i + 1) m (upd a' (b + i) (m (q + i))) a := by
  constructor
  · intro j hj
    rw [pk_un (by omega)]
    exact h.1 j (by omega)
  · intro t h2
    by_cases e : t = i
    · subst e
      rw [pk_us]
    · rw [pk_un (by omega)]
      exact h.2 t (by omega)
theorem jt_CpyE {b q n : Nat} {m a' a : Nat → Int32} (h : jt_Cpy b q n m a' a) : jt_sg a' b n = jt_sg m q n := jt_congr n (fun i hi => h.2 i hi)
def jt_Flt (p : Int32 → Bool) (b i k : Nat) (a' a : Nat → Int32) : Prop := k ≤ i ∧ (∀ j, (j < b ∨ b + k ≤ j) → a' j = a j) ∧ jt_sg a' b k = (jt_sg a b i).filter p
theorem jt_Flt0 (p : Int32 → Bool) (b : Nat) (a : Nat → Int32) : jt_Flt p b 0 0 a a := ⟨Nat.le_refl _, fun _ _ => rfl, rfl⟩
theorem jt_FltG {p : Int32 → Bool} {b i k : Nat} {a' a : Nat → Int32} (h : jt_Flt p b i k a' a) : a' (b + i) = a (b + i) := h.2.1 _ (by have := h.1; omega)
theorem jt_FltT {p : Int32 → Bool} {b i k : Nat} {a' a : Nat → Int32} (h : jt_Flt p b i k a' a) (hp : p (a (b + i)) = true) : jt_Flt p b (i + 1) (k + 1) (upd a' (b + k) (a (b + i))) a := by
  have h0 := h.1
  refine ⟨by omega, ?_, ?_⟩
  · intro j hj
    rw [pk_un (by omega)]
    exact h.2.1 j (by omega)
  · have e1 : jt_sg (upd a' (b + k) (a (b + i))) b k = jt_sg a' b k := jt_congr k (fun t ht => pk_un (by omega))
    rw [jt_sS, e1, pk_us, h.2.2, jt_sS a b i, List.filter_append, List.filter_cons_of_pos hp]
    rfl
theorem jt_FltF {p : Int32 → Bool} {b i k : Nat} {a' a : Nat → Int32} (h : jt_Flt p b i k a' a) (hp : ¬ p (a (b + i)) = true) : jt_Flt p b (i + 1) k a' a := by
  have h0 := h.1
  refine ⟨by omega, h.2.1, ?_⟩
  rw [h.2.2, jt_sS a b i, List.filter_append, List.filter_cons_of_neg hp]
  exact (List.append_nil _).symm
theorem jt_cntS (p : Int32 → Bool) (a : Nat → Int32) (b i : Nat) : (jt_sg a b (i + 1)).countP p = (jt_sg a b i).countP p + (if p (a (b + i)) = true then 1 else 0) := by
  rw [jt_sS, List.countP_append, List.countP_singleton]
theorem jt_cntL (p : Int32 → Bool) (a : Nat → Int32) (b n : Nat) : (jt_sg a b n).countP p ≤ n := by
  have h := List.countP_le_length (p := p) (l := jt_sg a b n)
  rw [jt_len] at h
  exact h
theorem jt_memS {a : Nat → Int32} {b i : Nat} {z : Int32} : z ∈ jt_sg a b (i + 1) ↔ z ∈ jt_sg a b i ∨ z = a (b + i) := by
  rw [jt_sS, List.mem_append, List.mem_singleton]
def jt_Col (p : Int32 → Bool) (M0 : List Int32) (a : Nat → Int32) (b i f : Nat) (r : Nat → Int32) : Prop := f ≤ M0.length + i ∧ (jt_sg r 0 f).Nodup ∧ ∀ z, z ∈ jt_sg r 0 f ↔ z ∈ M0 ∨ (z ∈ jt_sg a b i ∧ p z = true)
theorem jt_Col0 (p : Int32 → Bool) (a : Nat → Int32) (b : Nat) {r : Nat → Int32} {f : Nat} (h : (jt_sg r 0 f).Nodup) : jt_Col p (jt_sg r 0 f) a b 0 f r :=
  ⟨by rw [jt_len]; omega, h, fun z => ⟨Or.inl, fun q => q.elim id (fun w => absurd w.1 (by rw [jt_s0]; exact List.not_mem_nil))⟩⟩
theorem jt_ColT {p : Int32 → Bool} {M0 : List Int32} {a : Nat → Int32} {b i f : Nat} {r : Nat → Int32} (h : jt_Col p M0 a b i f r) (hn : ¬ a (b + i) ∈ jt_sg r 0 f) (hp : p (a (b + i)) = true) : jt_Col p M0 a b (i + 1) (f + 1) (upd r f (a (b + i))) := by
  obtain ⟨h0, h1, h2⟩ := h
  have e1 : jt_sg (upd r f (a (b + i))) 0 (f + 1) = jt_sg r 0 f ++ [a (b + i)] := by
    have e2 : jt_sg (upd r f (a (b + i))) 0 f = jt_sg r 0 f := jt_congr f (fun t ht => pk_un (by omega))
    rw [jt_sS, e2, Nat.zero_add, pk_us]
  refine ⟨by omega, ?_, fun z => ?_⟩
  · rw [e1, List.nodup_append]
    refine ⟨h1, List.nodup_cons.mpr ⟨fun q => (nomatch q), List.nodup_nil⟩, ?_⟩
    intro x hx y hy
    rw [List.mem_singleton.mp hy]
    exact fun q => hn (q ▸ hx)
  · rw [e1, List.mem_append, List.mem_singleton, h2 z, jt_memS]
    constructor
    · rintro ((q | q) | q)
      · exact Or.inl q
      · exact Or.inr ⟨Or.inl q.1, q.2⟩
      · exact Or.inr ⟨Or.inr q, by rw [q]; exact hp⟩
    · rintro (q | ⟨q | q, w⟩)
      · exact Or.inl (Or.inl q)
      · exact Or.inl (Or.inr ⟨q, w⟩)
      · exact Or.inr q
theorem jt_ColF {p : Int32 → Bool} {M0 : List Int32} {a : Nat → Int32} {b i f : Nat} {r : Nat → Int32} (h : jt_Col p M0 a b i f r) (hn : a (b + i) ∈ jt_sg r 0 f ∨ ¬ p (a (b + i)) = true) : jt_Col p M0 a b (i + 1) f r := by
  obtain ⟨h0, h1, h2⟩ := h
  refine ⟨by omega, h1, fun z => ?_⟩
  rw [jt_memS]
  constructor
  · intro hz
    rcases (h2 z).mp hz with q | q
    · exact Or.inl q
    · exact Or.inr ⟨Or.inl q.1, q.2⟩
  · rintro (q | ⟨q | q, w⟩)
    · exact (h2 z).mpr (Or.inl q)
    · exact (h2 z).mpr (Or.inr ⟨q, w⟩)
    · rcases hn with g | g
      · rw [q]; exact g
      · rw [q] at w; exact absurd w g
theorem jt_comb {f : Bool → Bool → Bool} {A B T M N : List Int32} {f1 f2 : Nat} {r1 r2 a1 a2 : Nat → Int32} {b1 b2 n1 n2 : Nat} (hT : jt_mok f A B T) (hM : M.Perm A) (hN : N.Perm B) (eM : jt_sg a1 b1 n1 = M) (eN : jt_sg a2 b2 n2 = N)
    (h1 : jt_Col (fun z => f (jt_has M z) (jt_has N z)) [] a1 b1 n1 f1 r1) (h2 : jt_Col (fun z => f (jt_has M z) (jt_has N z)) (jt_sg r1 0 f1) a2 b2 n2 f2 r2) : (jt_sg r2 0 f2).Perm T := by
  apply (List.perm_ext_iff_of_nodup h2.2.1 (jt_nd hT.1)).mpr
  intro z
  have k1 := h1.2.2 z
  have k2 := h2.2.2 z
  rw [eM] at k1
  rw [eN] at k2
  rw [k2, k1, hT.2 z, ← jt_hasc (hM.mem_iff (a := z)), ← jt_hasc (hN.mem_iff (a := z)), ← hM.mem_iff (a := z), ← hN.mem_iff (a := z)]
  constructor
  · rintro ((q | q) | q)
    · exact nomatch q
    · exact ⟨Or.inl q.1, q.2⟩
    · exact ⟨Or.inr q.1, q.2⟩
  · rintro ⟨q | q, w⟩
    · exact Or.inl (Or.inr ⟨q, w⟩)
    · exact Or.inr ⟨q, w⟩
def jt_bad (v : Int32) : Prop := v < 0 ∨ (4 : Int32) ≤ v
theorem jt_cases (v : Int32) : jt_bad v ∨ ∃ s : Nat, s < 4 ∧ v = nI s := by
  rcases pk_ix v (n := 4) (by decide) with h | h | h
  · exact Or.inl (Or.inl h)
  · exact Or.inl (Or.inr h)
  · exact Or.inr h
theorem jt_snoc (r : Nat → Int32) (f : Nat) (x : Int32) : jt_sg (upd r f x) 0 (f + 1) = jt_sg r 0 f ++ [x] := by
  have e2 : jt_sg (upd r f x) 0 f = jt_sg r 0 f := jt_congr f (fun t ht => pk_un (by omega))
  rw [jt_sS, e2, Nat.zero_add, pk_us]
def jt_b (b : Bool) : Int32 := if b = true then 1 else 0
theorem jt_kpc (r : Nat → Int32) (f : Nat) (w : Int32) (T : List Int32) : jt_sg (upd r f w) 0 (f + 1) ++ T = jt_sg r 0 f ++ jt_kp true w T := by
  rw [jt_snoc, jt_kpT, List.append_assoc]
  rfl
end
section
theorem jt_m20 (s : Nat) : nI s * 20 = nI (s * 20) := pk_mul s 20
theorem jt_ix (s k : Nat) : nI s * 20 + nI k = nI (s * 20 + k) := by rw [jt_m20, nI_add]
theorem jt_ixc {s k : Nat} (h : s * 20 + k < 80) : (nI s * 20 + nI k).toNatClampNeg = s * 20 + k := pk_cl _ (jt_ix s k) (by omega)
theorem jt_ixv {s k : Nat} (h : s * 20 + k < 80) : vp_in (nI s * 20 + nI k) 80 := pk_in (s * 20 + k) 80 h (jt_ix s k) (by decide)
theorem jt_sc {s : Nat} (h : s < 4) : (nI s).toNatClampNeg = s := nI_clamp (by omega)
theorem jt_sv {s : Nat} (h : s < 4) : vp_in (nI s) 4 := vp_in_nI h (by decide)
theorem jx_isT {post : Int32 → Prop} {s : Nat} (hs : s < 4) (h : post 1) : wpX_isSet post (nI s) :=
  br_f (nI_pos (by omega)) (br_f (nI_ge (b := 4) hs (by decide)) h)
theorem jx_isF {post : Int32 → Prop} {v : Int32} (hv : jt_bad v) (h : post 0) : wpX_isSet post v := by
  by_cases h0 : v < 0
  · exact br_t h0 h
  · exact br_f h0 (br_t (hv.resolve_left h0) h)
theorem jx_sm {ai ac am : Nat → Int32} {s c : Nat} (hs : s < 4) (hc : ac s = nI c) (h20 : c ≤ 20) (x : Int32) (post : Int32 → Prop) (h : post (nI ((jt_sg ai (s * 20) c).countP (jt_l x)))) :
    ∀ d i, i + d = c → wX_smallerThan_5 post (nI s) x ai ac am (d + 1) (nI ((jt_sg ai (s * 20) i).countP (jt_l x))) (nI i) := by
  intro d
  induction d with
  | zero =>
    intro i hi
    have e : i = c := by omega
    rw [e]
    refine And.intro (jt_sv hs) (br_t ?_ h)
    rw [jt_sc hs, hc]
    exact nI_le (Nat.le_refl _) (by omega)
  | succ d ih =>
    intro i hi
    have hb : s * 20 + i < 80 := by omega
    have h2 := ih (i + 1) (by omega)
    rw [jt_cntS] at h2
    refine And.intro (jt_sv hs) (br_f ?_ (And.intro (jt_ixv hb) ?_))
    · rw [jt_sc hs, hc]
      exact nI_ge (by omega) (by omega)
    · rw [jt_ixc hb]
      by_cases hx : ai (s * 20 + i) < x
      · refine br_f (Int32.not_le.mpr hx) (nm_r (nI_1 _) (nm_r (nI_1 _) ?_))
        rw [if_pos (jt_li.mpr hx)] at h2
        exact h2
      · refine br_t (Int32.not_lt.mp hx) (nm_r (nI_1 _) ?_)
        have hn : ¬ jt_l x (ai (s * 20 + i)) = true := fun q => hx (jt_li.mp q)
        rw [if_neg hn, Nat.add_zero] at h2
        exact h2
theorem jx_small {ai ac am : Nat → Int32} {s c : Nat} (hs : s < 4) (hc : ac s = nI c) (h20 : c ≤ 20) (x : Int32) {post : Int32 → Prop} (h : post (nI ((jt_sg ai (s * 20) c).countP (jt_l x)))) : wpX_smallerThan post (ai, ac, am) (nI s) x := by
  have h2 := jx_sm (am := am) hs hc h20 x post h c 0 (by omega)
  have e0 : (jt_sg ai (s * 20) 0).countP (jt_l x) = 0 := rfl
  rw [e0, nI_0] at h2
  exact Exists.intro (c + 1) h2
theorem jx_hold {ai ac am : Nat → Int32} {s c k : Nat} (hs : s < 4) (hc : ac s = nI c) (h20 : c ≤ 20) (hk : k ≤ 20) (x : Int32) {post : Int32 → Prop} (hT : k < c → ai (s * 20 + k) = x → post 1) (hF : (c ≤ k ∨ ¬ ai (s * 20 + k) = x) → post 0) :
    wpX_holdsAt post (ai, ac, am) (nI s) (nI k) x := by
  refine And.intro (jt_sv hs) (br_c (fun q => hF (Or.inl ?_)) (fun q => ?_))
  · rw [jt_sc hs, hc, nI_leI (by omega) (by omega)] at q
    exact q
  · rw [jt_sc hs, hc, nI_leI (by omega) (by omega)] at q
    have hb : s * 20 + k < 80 := by omega
    refine And.intro (jt_ixv hb) ?_
    rw [jt_ixc hb]
    exact br_c (fun w => hT (by omega) w) (fun w => hF (Or.inr w))
theorem jx_holdL {ai ac am : Nat → Int32} {s c : Nat} (hs : s < 4) (hc : ac s = nI c) (h20 : c ≤ 20) (hS : (jt_sg ai (s * 20) c).Pairwise (· < ·)) (x : Int32) {post : Int32 → Prop} (hT : x ∈ jt_sg ai (s * 20) c → post 1) (hF : ¬ x ∈ jt_sg ai (s * 20) c → post 0) :
    wpX_holdsAt post (ai, ac, am) (nI s) (nI ((jt_sg ai (s * 20) c).countP (jt_l x))) x := by
  have hl := jt_cntL (jt_l x) ai (s * 20) c
  refine jx_hold hs hc h20 (by omega) x (fun h1 h2 => hT (jt_mem.mpr ⟨_, h1, h2⟩)) (fun q => hF (fun hx => ?_))
  have h3 := jt_hold hS x hx
  have h4 := (List.getElem?_eq_some_iff.mp h3).1
  rw [jt_len] at h4
  rw [jt_get ai (s * 20) c _ h4] at h3
  rcases q with q | q
  · omega
  · exact q (Option.some.inj h3)
theorem jx_insL {ai ac am : Nat → Int32} {s c k : Nat} (hs : s < 4) (hc : ac s = nI c) (h20 : c < 20) (hk : k ≤ c) (x : Int32) (post : SX → Prop) (h : ∀ a', jt_Ins (s * 20) c k a' ai → post (upd a' (s * 20 + k) x, upd ac s (nI (c + 1)), am)) :
    ∀ d a', jt_Ins (s * 20) c (k + d) a' ai → k + d ≤ c → wX_insertAt_14 post (nI s) (nI k) x (nI (s * 20)) (d + 1) (nI (k + d)) a' ac am := by
  intro d
  induction d with
  | zero =>
    intro a' hI hd
    have e1 : (nI (s * 20) + nI k).toNatClampNeg = s * 20 + k := pk_cl _ (nI_add _ _) (by omega)
    have e2 : upd a' (nI (s * 20) + nI k).toNatClampNeg x = upd a' (s * 20 + k) x := by rw [e1]
    have e3 : upd ac (nI s).toNatClampNeg (ac (nI s).toNatClampNeg + 1) = upd ac s (nI (c + 1)) := by rw [jt_sc hs, hc, nI_1]
    exact br_t (nI_le (by omega) (by omega)) (And.intro (pk_in (s * 20 + k) 80 (by omega) (nI_add _ _) (by decide)) (nm_r e2 (And.intro (jt_sv hs) (And.intro (jt_sv hs) (nm_r e3 (h a' hI))))))
  | succ d ih =>
    intro a' hI hd
    have eb : nI (s * 20) + nI (k + (d + 1)) = nI (s * 20 + (k + d) + 1) := nI_add _ _
    have ea : nI (s * 20) + nI (k + (d + 1)) - 1 = nI (s * 20 + (k + d)) := by rw [eb, nI_pred]
    have e2 : upd a' (nI (s * 20) + nI (k + (d + 1))).toNatClampNeg (a' (nI (s * 20) + nI (k + (d + 1)) - 1).toNatClampNeg) = upd a' (s * 20 + (k + d) + 1) (a' (s * 20 + (k + d))) := by
      rw [pk_cl _ eb (by omega), pk_cl _ ea (by omega)]
    exact br_f (nI_ge (by omega) (by omega)) (And.intro (pk_in _ 80 (by omega) ea (by decide)) (And.intro (pk_in _ 80 (by omega) eb (by decide)) (nm_r e2 (nm_r (pk_m1 (k + d)) (ih _ (jt_InsS hI (by omega)) (by omega))))))
theorem jx_ins {ai ac am : Nat → Int32} {s c k : Nat} (hs : s < 4) (hc : ac s = nI c) (h20 : c < 20) (hk : k ≤ c) (x : Int32) {post : SX → Prop} (h : ∀ a', jt_Ins (s * 20) c k a' ai → post (upd a' (s * 20 + k) x, upd ac s (nI (c + 1)), am)) :
    wpX_insertAt post (ai, ac, am) (nI s) (nI k) x := by
  have e : k + (c - k) = c := by omega
  have h2 := jx_insL hs hc h20 hk x post h (c - k) ai (by rw [e]; exact jt_Ins0 _ _ _) (by omega)
  rw [e] at h2
  have e3 : ac (nI s).toNatClampNeg = nI c := by rw [jt_sc hs, hc]
  exact nm_r (jt_m20 s) (And.intro (jt_sv hs) (nm_r e3 (Exists.intro _ h2)))
theorem jx_cutL {ai ac am : Nat → Int32} {s c fr g : Nat} (hs : s < 4) (hc : ac s = nI c) (h20 : c ≤ 20) (post : SX → Prop) (h : ∀ a', jt_Cut (s * 20) fr g (c - g) a' ai → post (a', upd ac s (nI (c - g)), am)) :
    ∀ d t a', jt_Cut (s * 20) fr g t a' ai → t + g + d = c → fr ≤ t → wX_cut_14 post (nI s) (nI (s * 20)) (nI g) (d + 1) (nI (t + g)) a' ac am := by
  intro d
  induction d with
  | zero =>
    intro t a' hI hd hf
    have e : t = c - g := by omega
    rw [e] at hI
    have e3 : upd ac (nI s).toNatClampNeg (ac (nI s).toNatClampNeg - nI g) = upd ac s (nI (c - g)) := by rw [jt_sc hs, hc, pk_sub (by omega)]
    refine And.intro (jt_sv hs) (br_t ?_ (And.intro (jt_sv hs) (And.intro (jt_sv hs) (nm_r e3 (h a' hI)))))
    rw [jt_sc hs, hc]
    exact nI_le (by omega) (by omega)
  | succ d ih =>
    intro t a' hI hd hf
    have eb : nI (s * 20) + nI (t + g) = nI (s * 20 + t + g) := by rw [nI_add, Nat.add_assoc]
    have ea : nI (s * 20) + nI (t + g) - nI g = nI (s * 20 + t) := by rw [eb, pk_sub (by omega), Nat.add_sub_cancel]
    have e2 : upd a' (nI (s * 20) + nI (t + g) - nI g).toNatClampNeg (a' (nI (s * 20) + nI (t + g)).toNatClampNeg) = upd a' (s * 20 + t) (a' (s * 20 + t + g)) := by
      rw [pk_cl _ ea (by omega), pk_cl _ eb (by omega)]
    have e4 : nI (t + g) + 1 = nI (t + 1 + g) := by rw [nI_1, Nat.add_right_comm]
    refine And.intro (jt_sv hs) (br_f ?_ (And.intro (pk_in _ 80 (by omega) eb (by decide)) (And.intro (pk_in _ 80 (by omega) ea (by decide)) (nm_r e2 (nm_r e4 (ih (t + 1) _ (jt_CutS hI hf) (by omega) (by omega)))))))
    rw [jt_sc hs, hc]
    exact nI_ge (by omega) (by omega)
theorem jx_cut {ai ac am : Nat → Int32} {s c : Nat} (fr to : Nat) (hs : s < 4) (hc : ac s = nI c) (h20 : c ≤ 20) (hf : fr ≤ to) (ht : to ≤ c) {post : SX → Prop} (h : ∀ a', jt_Cut (s * 20) fr (to - fr) (c - (to - fr)) a' ai → post (a', upd ac s (nI (c - (to - fr))), am)) :
    wpX_cut post (ai, ac, am) (nI s) (nI fr) (nI to) := by
  have e : fr + (to - fr) = to := by omega
  have h2 := jx_cutL hs hc h20 post h (c - to) fr ai (jt_Cut0 _ _ _ _) (by omega) (Nat.le_refl _)
  rw [e] at h2
  exact nm_r (jt_m20 s) (nm_r (pk_sub hf) (Exists.intro _ h2))
theorem jx_tailL {ai ac am : Nat → Int32} {s c k d : Nat} (hs : s < 4) (hd : d < 4) (hsd : s ≠ d) (h20 : c ≤ 20) (hk : k ≤ c) (post : SX → Prop) (h : ∀ a', jt_Cpy (d * 20) (s * 20 + k) (c - k) ai a' ai → post (a', upd (upd ac d (nI (c - k))) s (nI k), am)) :
    ∀ e t a', jt_Cpy (d * 20) (s * 20 + k) t ai a' ai → t + e = c - k → wX_moveTail_13 post (nI s) (nI k) (nI d) (nI (c - k)) (e + 1) (nI t) a' ac am := by
  intro e
  induction e with
  | zero =>
    intro t a' hI he
    have e0 : t = c - k := by omega
    rw [e0] at hI
    have e3 : upd ac (nI d).toNatClampNeg (nI (c - k)) = upd ac d (nI (c - k)) := by rw [jt_sc hd]
    have e4 : upd (upd ac d (nI (c - k))) (nI s).toNatClampNeg (nI k) = upd (upd ac d (nI (c - k))) s (nI k) := by rw [jt_sc hs]
    exact br_t (nI_le (by omega) (by omega)) (And.intro (jt_sv hd) (nm_r e3 (And.intro (jt_sv hs) (nm_r e4 (h a' hI)))))
  | succ e ih =>
    intro t a' hI he
    have ea : nI s * 20 + nI k + nI t = nI (s * 20 + k + t) := by rw [jt_ix, nI_add]
    have e2 : upd a' (nI d * 20 + nI t).toNatClampNeg (a' (nI s * 20 + nI k + nI t).toNatClampNeg) = upd a' (d * 20 + t) (ai (s * 20 + k + t)) := by
      rw [pk_cl _ ea (by omega), jt_ixc (by omega), hI.1 (s * 20 + k + t) (by omega)]
    exact br_f (nI_ge (by omega) (by omega)) (And.intro (pk_in _ 80 (by omega) ea (by decide)) (And.intro (jt_ixv (by omega)) (nm_r e2 (nm_r (nI_1 t) (ih (t + 1) _ (jt_CpyS hI) (by omega))))))
theorem jx_tail {ai ac am : Nat → Int32} {s c k d : Nat} (hs : s < 4) (hd : d < 4) (hsd : s ≠ d) (hc : ac s = nI c) (h20 : c ≤ 20) (hk : k ≤ c) {post : SX → Prop} (h : ∀ a', jt_Cpy (d * 20) (s * 20 + k) (c - k) ai a' ai → post (a', upd (upd ac d (nI (c - k))) s (nI k), am)) :
    wpX_moveTail post (ai, ac, am) (nI s) (nI k) (nI d) := by
  have h2 := jx_tailL hs hd hsd h20 hk post h (c - k) 0 ai (jt_Cpy0 _ _ _ _) (by omega)
  rw [nI_0] at h2
  have e3 : ac (nI s).toNatClampNeg - nI k = nI (c - k) := by rw [jt_sc hs, hc, pk_sub hk]
  exact And.intro (jt_sv hs) (nm_r e3 (Exists.intro _ h2))
theorem jx_takeL {ai ac am : Nat → Int32} {d n : Nat} (hd : d < 4) (hn : n ≤ 20) (post : SX → Prop) (h : ∀ a', jt_Cpy (d * 20) 0 n am a' ai → post (a', upd ac d (nI n), am)) :
    ∀ e t a', jt_Cpy (d * 20) 0 t am a' ai → t + e = n → wX_takeMerged_2 post (nI d) (nI n) (e + 1) (nI t) a' ac am := by
  intro e
  induction e with
  | zero =>
    intro t a' hI he
    have e0 : t = n := by omega
    rw [e0] at hI
    have e3 : upd ac (nI d).toNatClampNeg (nI n) = upd ac d (nI n) := by rw [jt_sc hd]
    exact br_t (nI_le (by omega) (by omega)) (And.intro (jt_sv hd) (nm_r e3 (h a' hI)))
  | succ e ih =>
    intro t a' hI he
    have e2 : upd a' (nI d * 20 + nI t).toNatClampNeg (am (nI t).toNatClampNeg) = upd a' (d * 20 + t) (am (0 + t)) := by
      rw [nI_clamp (by omega), jt_ixc (by omega), Nat.zero_add]
    exact br_f (nI_ge (by omega) (by omega)) (And.intro (vp_in_nI (by omega) (by decide)) (And.intro (jt_ixv (by omega)) (nm_r e2 (nm_r (nI_1 t) (ih (t + 1) _ (jt_CpyS hI) (by omega))))))
theorem jx_take {ai ac am : Nat → Int32} {d n : Nat} (hd : d < 4) (hn : n ≤ 20) {post : SX → Prop} (h : ∀ a', jt_Cpy (d * 20) 0 n am a' ai → post (a', upd ac d (nI n), am)) : wpX_takeMerged post (ai, ac, am) (nI d) (nI n) := by
  have h2 := jx_takeL hd hn post h n 0 ai (jt_Cpy0 _ _ _ _) (by omega)
  rw [nI_0] at h2
  exact Exists.intro _ h2
theorem jx_keeps {post : Int32 → Prop} (h : Nat) (hh : h < 4) (p q : Bool) (hp : post (jt_b (jt_f h p q))) : wpX_keeps post (nI h) (jt_b p) (jt_b q) := by
  have c4 : h = 0 ∨ h = 1 ∨ h = 2 ∨ h = 3 := by omega
  rcases c4 with e | e | e | e <;> subst e <;> cases p <;> cases q <;>
    repeat (first | exact hp | refine br_t (by decide) ?_ | refine br_f (by decide) ?_)
end
section
theorem jx_185 {post : Int32 → SX → Prop} {J : Int32 → Int32 → Int32 → Int32 → (Nat → Int32) → (Nat → Int32) → (Nat → Int32) → Prop} {x1 x2 x3 x6 : Int32} (p q : Bool) {i j i' j' : Nat} (st : Nat) {ai ac am : Nat → Int32}
    (ei : nI i + jt_b p = nI i') (ej : nI j + jt_b q = nI j') (h : J (nI i') (nI j') x6 (nI (st + 1)) ai ac am) : wX_merge_185 post J x1 x2 x3 (nI i) (nI j) x6 (nI st) (jt_b p) (jt_b q) ai ac am := by
  cases p <;> cases q
  · exact br_t (by decide) (nm_r ei (br_t (by decide) (nm_r ej (nm_r (nI_1 st) h))))
  · exact br_t (by decide) (nm_r ei (br_f (by decide) (nm_r ej (nm_r (nI_1 st) h))))
  · exact br_f (by decide) (nm_r ei (br_t (by decide) (nm_r ej (nm_r (nI_1 st) h))))
  · exact br_f (by decide) (nm_r ei (br_f (by decide) (nm_r ej (nm_r (nI_1 st) h))))
theorem jx_152 {post : Int32 → SX → Prop} {J : Int32 → Int32 → Int32 → Int32 → (Nat → Int32) → (Nat → Int32) → (Nat → Int32) → Prop} {x2 x3 x10 x11 : Int32} (h : Nat) (hh : h < 4) (p q : Bool) {i j i' j' : Nat} (n st : Nat) (hn : n < 40) {ai ac am : Nat → Int32} (w : Int32)
    (hw : w = if p = true then x10 else x11) (ei : nI i + jt_b p = nI i') (ej : nI j + jt_b q = nI j')
    (hF : jt_f h p q = false → J (nI i') (nI j') (nI n) (nI (st + 1)) ai ac am) (hT : jt_f h p q = true → J (nI i') (nI j') (nI (n + 1)) (nI (st + 1)) ai ac (upd am n w)) :
    wX_merge_152 post J (nI h) x2 x3 (nI i) (nI j) (nI n) (nI st) (jt_b p) (jt_b q) x10 x11 ai ac am := by
  refine jx_keeps h hh p q ?_
  cases e : jt_f h p q with
  | false => exact br_t (by decide) (jx_185 p q st ei ej (hF e))
  | true =>
    have h2 := hT e
    refine br_f (by decide) ?_
    cases p with
    | false =>
      have e1 : upd am (nI n).toNatClampNeg x11 = upd am n w := by rw [nI_clamp (by omega), hw]; rfl
      exact br_t (by decide) (And.intro (vp_in_nI hn (by decide)) (nm_r e1 (nm_r (nI_1 n) (jx_185 false q st ei ej h2))))
    | true =>
      have e1 : upd am (nI n).toNatClampNeg x10 = upd am n w := by rw [nI_clamp (by omega), hw]; rfl
      exact br_f (by decide) (And.intro (vp_in_nI hn (by decide)) (nm_r e1 (nm_r (nI_1 n) (jx_185 true q st ei ej h2))))
theorem jt_hd (a : Nat → Int32) (b : Nat) {i c : Nat} (h : i < c) : jt_sg a (b + i) (c - i) = a (b + i) :: jt_sg a (b + (i + 1)) (c - (i + 1)) := by
  have e : c - i = (c - (i + 1)) + 1 := by omega
  rw [e, jt_cons]
  rfl
theorem jt_tl0 (a : Nat → Int32) (b : Nat) {i c : Nat} (h : c ≤ i) : jt_sg a (b + i) (c - i) = [] := by
  rw [Nat.sub_eq_zero_of_le h]
  rfl
theorem jx_mgL {ai ac : Nat → Int32} {a b ca cb h : Nat} (ha : a < 4) (hb : b < 4) (hca : ac a = nI ca) (hcb : ac b = nI cb) (la : ca ≤ 20) (lb : cb ≤ 20) (hh : h < 4) (T : List Int32) (post : Int32 → SX → Prop)
    (hp : ∀ m n, n ≤ 40 → jt_sg m 0 n = T → post (nI n) (ai, ac, m)) :
    ∀ d i j n st m, st + d = 40 → i ≤ ca → j ≤ cb → (ca - i) + (cb - j) ≤ d → n ≤ st → jt_sg m 0 n ++ jt_mg (jt_f h) d (jt_sg ai (a * 20 + i) (ca - i)) (jt_sg ai (b * 20 + j) (cb - j)) = T →
      wX_merge_12 post (nI h) (nI a) (nI b) (d + 1) (nI i) (nI j) (nI n) (nI st) ai ac m := by
  intro d
  induction d with
  | zero =>
    intro i j n st m hst hi hj hr hn hT
    refine br_t ?_ (hp m n (by omega) ?_)
    · exact nI_le (a := 40) (by omega) (by omega)
    · rw [← hT]
      exact (List.append_nil _).symm
  | succ d ih =>
    intro i j n st m hst hi hj hr hn hT
    have hadv : ∀ (p q : Bool) (x10 x11 w : Int32) (i' j' : Nat), w = (if p = true then x10 else x11) → nI i + jt_b p = nI i' → nI j + jt_b q = nI j' → i' ≤ ca → j' ≤ cb → (ca - i') + (cb - j') ≤ d →
        jt_mg (jt_f h) (d + 1) (jt_sg ai (a * 20 + i) (ca - i)) (jt_sg ai (b * 20 + j) (cb - j)) = jt_kp (jt_f h p q) w (jt_mg (jt_f h) d (jt_sg ai (a * 20 + i') (ca - i')) (jt_sg ai (b * 20 + j') (cb - j'))) →
        wX_merge_152 post (wX_merge_12 post (nI h) (nI a) (nI b) (d + 1)) (nI h) (nI a) (nI b) (nI i) (nI j) (nI n) (nI st) (jt_b p) (jt_b q) x10 x11 ai ac m := by
      intro p q x10 x11 w i' j' hw ei ej h1 h2 h3 hk
      rw [hk] at hT
      refine jx_152 h hh p q n st (by omega) w hw ei ej (fun e => ?_) (fun e => ?_)
      · rw [e, jt_kpF] at hT
        exact ih _ _ n (st + 1) m (by omega) h1 h2 h3 (by omega) hT
      · rw [e] at hT
        exact ih _ _ (n + 1) (st + 1) _ (by omega) h1 h2 h3 (by omega) ((jt_kpc m n w _).trans hT)
    have g40 : ¬ (40 : Int32) ≤ nI st := nI_ge (b := 40) (by omega) (by decide)
    have va := jt_sv ha
    have vb := jt_sv hb
    have ca1 : ac (nI a).toNatClampNeg ≤ nI i ↔ ca ≤ i := by rw [jt_sc ha, hca, nI_leI (by omega) (by omega)]
    have cb1 : ac (nI b).toNatClampNeg ≤ nI j ↔ cb ≤ j := by rw [jt_sc hb, hcb, nI_leI (by omega) (by omega)]
    have z : ∀ n, nI n + jt_b false = nI n := fun n => Int32.add_zero _
    have o : ∀ n, nI n + jt_b true = nI (n + 1) := fun n => nI_1 n
    by_cases hia : ca ≤ i
    · by_cases hjb : cb ≤ j
      · refine br_f g40 (And.intro va (br_t (ca1.mpr hia) (And.intro vb (br_t (cb1.mpr hjb) (br_t rfl (br_t rfl (hp m n (by omega) ?_)))))))
        rw [jt_tl0 ai (a * 20) hia, jt_tl0 ai (b * 20) hjb, jt_mg00, List.append_nil] at hT
        exact hT
      · refine br_f g40 (And.intro va (br_t (ca1.mpr hia) (And.intro vb (br_f (fun y => hjb (cb1.mp y)) (br_t rfl (br_f (by decide) (br_t rfl (br_f (by decide) (And.intro (jt_ixv (by omega)) ?_)))))))))
        rw [jt_ixc (by omega)]
        refine br_t rfl (hadv false true 0 (ai (b * 20 + j)) (ai (b * 20 + j)) i (j + 1) rfl (z i) (o j) (by omega) (by omega) (by omega) ?_)
        rw [jt_tl0 ai (a * 20) hia, jt_hd ai (b * 20) (Nat.lt_of_not_le hjb), jt_mgB]
    · by_cases hjb : cb ≤ j
      · refine br_f g40 (And.intro va (br_f (fun y => hia (ca1.mp y)) (And.intro vb (br_t (cb1.mpr hjb) (br_f (by decide) (br_f (by decide) (And.intro (jt_ixv (by omega)) (br_t rfl (br_f (by decide) (br_t rfl ?_))))))))))
        rw [jt_ixc (by omega)]
        refine hadv true false (ai (a * 20 + i)) 0 (ai (a * 20 + i)) (i + 1) j rfl (o i) (z j) (by omega) (by omega) (by omega) ?_
        rw [jt_tl0 ai (b * 20) hjb, jt_hd ai (a * 20) (Nat.lt_of_not_le hia), jt_mgA]
      · refine br_f g40 (And.intro va (br_f (fun y => hia (ca1.mp y)) (And.intro vb (br_f (fun y => hjb (cb1.mp y)) (br_f (by decide) (br_f (by decide) (And.intro (jt_ixv (by omega)) (br_f (by decide) (And.intro (jt_ixv (by omega)) (br_f (by decide) (br_f (by decide) ?_)))))))))))
        rw [jt_ixc (s := a) (k := i) (by omega), jt_ixc (s := b) (k := j) (by omega)]
        have hA := jt_hd ai (a * 20) (Nat.lt_of_not_le hia)
        have hB := jt_hd ai (b * 20) (Nat.lt_of_not_le hjb)
        by_cases hyx : ai (b * 20 + j) < ai (a * 20 + i)
        · refine br_t hyx (br_f (Int32.not_lt.mpr (Int32.le_of_lt hyx)) (hadv false true (ai (a * 20 + i)) (ai (b * 20 + j)) (ai (b * 20 + j)) i (j + 1) rfl (z i) (o j) (by omega) (by omega) (by omega) ?_))
          rw [hB, hA, jt_mgg _ d _ _ hyx]
        · by_cases hxy : ai (a * 20 + i) < ai (b * 20 + j)
          · refine br_f hyx (br_t hxy (hadv true false (ai (a * 20 + i)) (ai (b * 20 + j)) (ai (a * 20 + i)) (i + 1) j rfl (o i) (z j) (by omega) (by omega) (by omega) ?_))
            rw [hA, hB, jt_mgl _ d _ _ hxy]
          · refine br_f hyx (br_f hxy (hadv true true (ai (a * 20 + i)) (ai (b * 20 + j)) (ai (a * 20 + i)) (i + 1) (j + 1) rfl (o i) (o j) (by omega) (by omega) (by omega) ?_))
            have e : ai (a * 20 + i) = ai (b * 20 + j) := Int32.le_antisymm (Int32.not_lt.mp hyx) (Int32.not_lt.mp hxy)
            rw [hA, hB, ← e, jt_mge]
theorem jx_merge {ai ac am : Nat → Int32} {a b ca cb : Nat} (h : Nat) (ha : a < 4) (hb : b < 4) (hca : ac a = nI ca) (hcb : ac b = nI cb) (la : ca ≤ 20) (lb : cb ≤ 20) (hh : h < 4)
    (sa : (jt_sg ai (a * 20) ca).Pairwise (· < ·)) (sb : (jt_sg ai (b * 20) cb).Pairwise (· < ·)) {post : Int32 → SX → Prop}
    (hp : ∀ m n, n ≤ 40 → jt_mok (jt_f h) (jt_sg ai (a * 20) ca) (jt_sg ai (b * 20) cb) (jt_sg m 0 n) → post (nI n) (ai, ac, m)) : wpX_merge post (ai, ac, am) (nI h) (nI a) (nI b) := by
  have hk := jt_mgOk (jt_f h) 40 _ _ sa sb (by rw [jt_len, jt_len]; omega)
  have h2 := jx_mgL ha hb hca hcb la lb hh _ post (fun m n h1 e => hp m n h1 (by rw [e]; exact hk)) 40 0 0 0 0 am (by omega) (by omega) (by omega) (by omega) (by omega) rfl
  rw [nI_0] at h2
  exact Exists.intro 41 h2
end
section
theorem jy_isT {post : Int32 → Prop} {f : Int32} {bi bc br : Nat → Int32} {s : Nat} (hs : s < 4) (h : post 1) : wpY_isSet post (f, bi, bc, br) (nI s) :=
  br_f (nI_pos (by omega)) (br_f (nI_ge (b := 4) hs (by decide)) h)
theorem jy_isF {post : Int32 → Prop} {f : Int32} {bi bc br : Nat → Int32} {v : Int32} (hv : jt_bad v) (h : post 0) : wpY_isSet post (f, bi, bc, br) v := by
  by_cases h0 : v < 0
  · exact br_t h0 h
  · exact br_f h0 (br_t (hv.resolve_left h0) h)
theorem jy_hasL {f : Int32} {bi bc br : Nat → Int32} {s c : Nat} (hs : s < 4) (hc : bc s = nI c) (h20 : c ≤ 20) (x : Int32) (post : Int32 → Prop) (hT : x ∈ jt_sg bi (s * 20) c → post 1) (hF : ¬ x ∈ jt_sg bi (s * 20) c → post 0) :
    ∀ d i, i + d = c → (∀ t, t < i → ¬ bi (s * 20 + t) = x) → wY_has_2 post (nI s) x f bi bc br (d + 1) (nI i) := by
  intro d
  induction d with
  | zero =>
    intro i hi hn
    have e : i = c := by omega
    unfold wY_has_2
    refine jy_isT hs (br_f (by decide) (And.intro (jt_sv hs) (br_t ?_ (hF ?_))))
    · rw [jt_sc hs, hc]
      exact nI_le (by omega) (by omega)
    · intro hx
      obtain ⟨t, h1, h2⟩ := jt_mem.mp hx
      exact hn t (by omega) h2
  | succ d ih =>
    intro i hi hn
    have hb : s * 20 + i < 80 := by omega
    unfold wY_has_2
    refine jy_isT hs (br_f (by decide) (And.intro (jt_sv hs) (br_f ?_ (And.intro (jt_ixv hb) ?_))))
    · rw [jt_sc hs, hc]
      exact nI_ge (by omega) (by omega)
    · rw [jt_ixc hb]
      refine br_c (fun q => hT (jt_mem.mpr ⟨i, by omega, q⟩)) (fun q => nm_r (nI_1 i) (ih (i + 1) (by omega) ?_))
      intro t ht
      by_cases e : t = i
      · rw [e]; exact q
      · exact hn t (by omega)
theorem jy_has {f : Int32} {bi bc br : Nat → Int32} {s c : Nat} (hs : s < 4) (hc : bc s = nI c) (h20 : c ≤ 20) (x : Int32) {post : Int32 → Prop} (hT : x ∈ jt_sg bi (s * 20) c → post 1) (hF : ¬ x ∈ jt_sg bi (s * 20) c → post 0) :
    wpY_has post (f, bi, bc, br) (nI s) x := by
  have h2 := jy_hasL (f := f) (br := br) hs hc h20 x post hT hF c 0 (by omega) (fun t ht => by omega)
  rw [nI_0] at h2
  exact Exists.intro _ h2
theorem jy_hasB {f : Int32} {bi bc br : Nat → Int32} {s c : Nat} (hs : s < 4) (hc : bc s = nI c) (h20 : c ≤ 20) (x : Int32) {post : Int32 → Prop} (h : post (jt_b (jt_has (jt_sg bi (s * 20) c) x))) : wpY_has post (f, bi, bc, br) (nI s) x := by
  refine jy_has hs hc h20 x (fun hx => ?_) (fun hx => ?_)
  · rw [jt_hasi.mpr hx] at h
    exact h
  · rw [jt_hasb (b := false) ⟨fun q => absurd q hx, fun q => absurd q (by decide)⟩] at h
    exact h
theorem jy_hasN {f : Int32} {bi bc br : Nat → Int32} {v x : Int32} (hv : jt_bad v) {post : Int32 → Prop} (h : post 0) : wpY_has post (f, bi, bc, br) v x := by
  refine Exists.intro 1 ?_
  unfold wY_has_2
  exact jy_isF hv (br_t rfl h)
theorem jy_rkL {f : Int32} {bi bc br : Nat → Int32} {s c : Nat} (hs : s < 4) (hc : bc s = nI c) (h20 : c ≤ 20) (x : Int32) (post : Int32 → Prop) (h : post (nI ((jt_sg bi (s * 20) c).countP (jt_l x)))) :
    ∀ d i, i + d = c → wY_rank_15 post (nI s) x f bi bc br (d + 1) (nI ((jt_sg bi (s * 20) i).countP (jt_l x))) (nI i) := by
  intro d
  induction d with
  | zero =>
    intro i hi
    have e : i = c := by omega
    rw [e]
    refine And.intro (jt_sv hs) (br_t ?_ h)
    rw [jt_sc hs, hc]
    exact nI_le (Nat.le_refl _) (by omega)
  | succ d ih =>
    intro i hi
    have hb : s * 20 + i < 80 := by omega
    have h2 := ih (i + 1) (by omega)
    rw [jt_cntS] at h2
    refine And.intro (jt_sv hs) (br_f ?_ (And.intro (jt_ixv hb) ?_))
    · rw [jt_sc hs, hc]
      exact nI_ge (by omega) (by omega)
    · rw [jt_ixc hb]
      by_cases hx : bi (s * 20 + i) < x
      · refine br_f (Int32.not_le.mpr hx) (nm_r (nI_1 _) (nm_r (nI_1 _) ?_))
        rw [if_pos (jt_li.mpr hx)] at h2
        exact h2
      · refine br_t (Int32.not_lt.mp hx) (nm_r (nI_1 _) ?_)
        have hn : ¬ jt_l x (bi (s * 20 + i)) = true := fun q => hx (jt_li.mp q)
        rw [if_neg hn, Nat.add_zero] at h2
        exact h2
theorem jy_rank {f : Int32} {bi bc br : Nat → Int32} {s c : Nat} (hs : s < 4) (hc : bc s = nI c) (h20 : c ≤ 20) (x : Int32) {post : Int32 → Prop} (h : post (nI ((jt_sg bi (s * 20) c).countP (jt_l x)))) : wpY_rank post (f, bi, bc, br) (nI s) x := by
  have h2 := jy_rkL (f := f) (br := br) hs hc h20 x post h c 0 (by omega)
  have e0 : (jt_sg bi (s * 20) 0).countP (jt_l x) = 0 := rfl
  rw [e0, nI_0] at h2
  unfold wpY_rank
  exact jy_isT hs (br_f (by decide) (Exists.intro (c + 1) h2))
theorem jy_rrL {f : Int32} {bi bc br : Nat → Int32} {s c : Nat} (hs : s < 4) (hc : bc s = nI c) (h20 : c ≤ 20) (lo hi : Int32) (post : Int32 → SY → Prop)
    (h : ∀ k b', jt_Flt (jt_out lo hi) (s * 20) c k b' bi → post (nI (c - k)) (f, b', upd bc s (nI k), br)) :
    ∀ d i k b', jt_Flt (jt_out lo hi) (s * 20) i k b' bi → i + d = c → wY_removeRange_16 post (nI s) lo hi f (d + 1) (nI k) (nI i) b' bc br := by
  intro d
  induction d with
  | zero =>
    intro i k b' hI hd
    have e : i = c := by omega
    rw [e] at hI
    have hk := hI.1
    have e1 : bc (nI s).toNatClampNeg - nI k = nI (c - k) := by rw [jt_sc hs, hc, pk_sub hk]
    have e2 : upd bc (nI s).toNatClampNeg (nI k) = upd bc s (nI k) := by rw [jt_sc hs]
    refine And.intro (jt_sv hs) (br_t ?_ (And.intro (jt_sv hs) (nm_r e1 (And.intro (jt_sv hs) (nm_r e2 (h k b' hI))))))
    rw [jt_sc hs, hc]
    exact nI_le (by omega) (by omega)
  | succ d ih =>
    intro i k b' hI hd
    have hk := hI.1
    have hb : s * 20 + i < 80 := by omega
    have e0 : b' (nI s * 20 + nI i).toNatClampNeg = bi (s * 20 + i) := by rw [jt_ixc hb, jt_FltG hI]
    have keep : jt_out lo hi (bi (s * 20 + i)) = true → wY_removeRange_53 post (wY_removeRange_16 post (nI s) lo hi f (d + 1)) (nI s) lo hi (nI k) (nI i) (bi (s * 20 + i)) f b' bc br := by
      intro ho
      have e2 : upd b' (nI s * 20 + nI k).toNatClampNeg (bi (s * 20 + i)) = upd b' (s * 20 + k) (bi (s * 20 + i)) := by rw [jt_ixc (by omega)]
      exact And.intro (jt_ixv (by omega)) (nm_r e2 (nm_r (nI_1 k) (nm_r (nI_1 i) (ih (i + 1) (k + 1) _ (jt_FltT hI ho) (by omega)))))
    refine And.intro (jt_sv hs) (br_f ?_ (And.intro (jt_ixv hb) (nm_r e0 ?_)))
    · rw [jt_sc hs, hc]
      exact nI_ge (by omega) (by omega)
    · refine br_c (fun q => keep (jt_outi.mpr (Or.inl q))) (fun q => br_c (fun w => nm_r (nI_1 i) (ih (i + 1) k b' (jt_FltF hI ?_) (by omega))) (fun w => keep (jt_outi.mpr (Or.inr (Int32.not_le.mp w)))))
      intro ho
      rcases jt_outi.mp ho with g | g
      · exact q g
      · exact Int32.not_le.mpr g w
theorem jy_rr {f : Int32} {bi bc br : Nat → Int32} {s c : Nat} (hs : s < 4) (hc : bc s = nI c) (h20 : c ≤ 20) (lo hi : Int32) {post : Int32 → SY → Prop}
    (h : ∀ k b', jt_Flt (jt_out lo hi) (s * 20) c k b' bi → post (nI (c - k)) (f, b', upd bc s (nI k), br)) : wpY_removeRange post (f, bi, bc, br) (nI s) lo hi := by
  have h2 := jy_rrL hs hc h20 lo hi post h c 0 0 bi (jt_Flt0 _ _ _) (by omega)
  rw [nI_0] at h2
  unfold wpY_removeRange
  exact jy_isT hs (br_f (by decide) (Exists.intro _ h2))
theorem jy_rrN {f : Int32} {bi bc br : Nat → Int32} {v lo hi : Int32} (hv : jt_bad v) {post : Int32 → SY → Prop} (h : post (-1) (f, bi, bc, br)) : wpY_removeRange post (f, bi, bc, br) v lo hi := by
  unfold wpY_removeRange
  exact jy_isF hv (br_t rfl h)
theorem jy_cdL {bi bc br : Nat → Int32} {f : Nat} (hf : f ≤ 40) (x : Int32) (post : Int32 → Prop) (hT : x ∈ jt_sg br 0 f → post 1) (hF : ¬ x ∈ jt_sg br 0 f → post 0) :
    ∀ d i, i + d = f → (∀ t, t < i → ¬ br t = x) → wY_collected_2 post x (nI f) bi bc br (d + 1) (nI i) := by
  intro d
  induction d with
  | zero =>
    intro i hi hn
    refine br_t (nI_le (by omega) (by omega)) (hF ?_)
    intro hx
    obtain ⟨t, h1, h2⟩ := jt_mem.mp hx
    rw [Nat.zero_add] at h2
    exact hn t (by omega) h2
  | succ d ih =>
    intro i hi hn
    refine br_f (nI_ge (by omega) (by omega)) (And.intro (vp_in_nI (by omega) (by decide)) ?_)
    rw [nI_clamp (by omega)]
    refine br_c (fun q => hT (jt_mem.mpr ⟨i, by omega, by rw [Nat.zero_add]; exact q⟩)) (fun q => nm_r (nI_1 i) (ih (i + 1) (by omega) ?_))
    intro t ht
    by_cases e : t = i
    · rw [e]; exact q
    · exact hn t (by omega)
theorem jy_cd {bi bc br : Nat → Int32} {f : Nat} (hf : f ≤ 40) (x : Int32) {post : Int32 → Prop} (hT : x ∈ jt_sg br 0 f → post 1) (hF : ¬ x ∈ jt_sg br 0 f → post 0) : wpY_collected post (nI f, bi, bc, br) x := by
  have h2 := jy_cdL (bi := bi) (bc := bc) hf x post hT hF f 0 (by omega) (fun t ht => by omega)
  rw [nI_0] at h2
  exact Exists.intro _ h2
theorem jy_bel {post : Int32 → Prop} {f : Int32} {bi bc br : Nat → Int32} (h : Nat) (hh : h < 4) (p q : Bool) (hp : post (jt_b (jt_f h p q))) : wpY_belongs post (f, bi, bc, br) (nI h) (jt_b p) (jt_b q) := by
  have c4 : h = 0 ∨ h = 1 ∨ h = 2 ∨ h = 3 := by omega
  rcases c4 with e | e | e | e <;> subst e <;> cases p <;> cases q <;>
    repeat (first | exact hp | refine br_t (by decide) ?_ | refine br_f (by decide) ?_)
theorem jy_coL {bi bc : Nat → Int32} {g h a b cg ca cb : Nat} (hg : g < 4) (ha : a < 4) (hb : b < 4) (hh : h < 4) (hcg : bc g = nI cg) (hca : bc a = nI ca) (hcb : bc b = nI cb) (lg : cg ≤ 20) (la : ca ≤ 20) (lb : cb ≤ 20) (M0 : List Int32) (hM : M0.length + cg ≤ 40) (post : SY → Prop)
    (hp : ∀ f r, jt_Col (fun z => jt_f h (jt_has (jt_sg bi (a * 20) ca) z) (jt_has (jt_sg bi (b * 20) cb) z)) M0 bi (g * 20) cg f r → post (nI f, bi, bc, r)) :
    ∀ d i f r, jt_Col (fun z => jt_f h (jt_has (jt_sg bi (a * 20) ca) z) (jt_has (jt_sg bi (b * 20) cb) z)) M0 bi (g * 20) i f r → i + d = cg → wY_collect_3 post (nI g) (nI h) (nI a) (nI b) (d + 1) (nI i) (nI f) bi bc r := by
  intro d
  induction d with
  | zero =>
    intro i f r hI hd
    have e : i = cg := by omega
    rw [e] at hI
    refine And.intro (jt_sv hg) (br_t ?_ (hp f r hI))
    rw [jt_sc hg, hcg]
    exact nI_le (by omega) (by omega)
  | succ d ih =>
    intro i f r hI hd
    have hf := hI.1
    have hx : g * 20 + i < 80 := by omega
    have e0 : bi (nI g * 20 + nI i).toNatClampNeg = bi (g * 20 + i) := by rw [jt_ixc hx]
    refine And.intro (jt_sv hg) (br_f ?_ (And.intro (jt_ixv hx) (nm_r e0 (jy_hasB ha hca la _ (jy_hasB hb hcb lb _ (jy_cd (by omega) _ (fun hz => ?_) (fun hz => ?_)))))))
    · rw [jt_sc hg, hcg]
      exact nI_ge (by omega) (by omega)
    · exact br_f (by decide) (nm_r (nI_1 i) (ih (i + 1) f r (jt_ColF hI (Or.inl hz)) (by omega)))
    · refine br_t rfl (jy_bel h hh _ _ ?_)
      cases e : jt_f h (jt_has (jt_sg bi (a * 20) ca) (bi (g * 20 + i))) (jt_has (jt_sg bi (b * 20) cb) (bi (g * 20 + i))) with
      | false =>
        refine br_t (by decide) (nm_r (nI_1 i) (ih (i + 1) f r (jt_ColF hI (Or.inr ?_)) (by omega)))
        intro q
        exact absurd (e.symm.trans q) (by decide)
      | true =>
        have e1 : upd r (nI f).toNatClampNeg (bi (g * 20 + i)) = upd r f (bi (g * 20 + i)) := by rw [nI_clamp (by omega)]
        exact br_f (by decide) (And.intro (vp_in_nI (by omega) (by decide)) (nm_r e1 (nm_r (nI_1 f) (nm_r (nI_1 i) (ih (i + 1) (f + 1) _ (jt_ColT hI hz e) (by omega))))))
theorem jy_co {bi bc r0 : Nat → Int32} {g h a b cg ca cb : Nat} (f0 : Nat) (hg : g < 4) (ha : a < 4) (hb : b < 4) (hh : h < 4) (hcg : bc g = nI cg) (hca : bc a = nI ca) (hcb : bc b = nI cb) (lg : cg ≤ 20) (la : ca ≤ 20) (lb : cb ≤ 20) (hn : (jt_sg r0 0 f0).Nodup) (hM : f0 + cg ≤ 40) {post : SY → Prop}
    (hp : ∀ f r, jt_Col (fun z => jt_f h (jt_has (jt_sg bi (a * 20) ca) z) (jt_has (jt_sg bi (b * 20) cb) z)) (jt_sg r0 0 f0) bi (g * 20) cg f r → post (nI f, bi, bc, r)) : wpY_collect post (nI f0, bi, bc, r0) (nI g) (nI h) (nI a) (nI b) := by
  have h2 := jy_coL hg ha hb hh hcg hca hcb lg la lb (jt_sg r0 0 f0) (by rw [jt_len]; exact hM) post hp cg 0 f0 r0 (jt_Col0 _ _ _ hn) (by omega)
  exact Exists.intro _ h2
theorem jy_stL {bi bc br : Nat → Int32} {d n : Nat} (hd : d < 4) (hn : n ≤ 20) (post : SY → Prop) (h : ∀ b', jt_Cpy (d * 20) 0 n br b' bi → post (nI n, b', upd bc d (nI n), br)) :
    ∀ e t b', jt_Cpy (d * 20) 0 t br b' bi → t + e = n → wY_store_2 post (nI d) (nI n) (e + 1) (nI t) b' bc br := by
  intro e
  induction e with
  | zero =>
    intro t b' hI he
    have e0 : t = n := by omega
    rw [e0] at hI
    have e3 : upd bc (nI d).toNatClampNeg (nI n) = upd bc d (nI n) := by rw [jt_sc hd]
    exact br_t (nI_le (by omega) (by omega)) (And.intro (jt_sv hd) (nm_r e3 (h b' hI)))
  | succ e ih =>
    intro t b' hI he
    have e2 : upd b' (nI d * 20 + nI t).toNatClampNeg (br (nI t).toNatClampNeg) = upd b' (d * 20 + t) (br (0 + t)) := by
      rw [nI_clamp (by omega), jt_ixc (by omega), Nat.zero_add]
    exact br_f (nI_ge (by omega) (by omega)) (And.intro (vp_in_nI (by omega) (by decide)) (And.intro (jt_ixv (by omega)) (nm_r e2 (nm_r (nI_1 t) (ih (t + 1) _ (jt_CpyS hI) (by omega))))))
theorem jy_st {bi bc br : Nat → Int32} {d n : Nat} (hd : d < 4) (hn : n ≤ 20) {post : SY → Prop} (h : ∀ b', jt_Cpy (d * 20) 0 n br b' bi → post (nI n, b', upd bc d (nI n), br)) : wpY_store post (nI n, bi, bc, br) (nI d) := by
  have h2 := jy_stL hd hn post h n 0 bi (jt_Cpy0 _ _ _ _) (by omega)
  rw [nI_0] at h2
  exact Exists.intro _ h2
theorem jy_spL {bi bc : Nat → Int32} {s c dd : Nat} (hs : s < 4) (hd : dd < 4) (hc : bc s = nI c) (h20 : c ≤ 20) (x : Int32) (post : Int32 → SY → Prop)
    (h : ∀ f r k b' b'', f ≤ c → jt_sg r 0 f = (jt_sg bi (s * 20) c).filter (jt_g x) → jt_Flt (jt_out x 2147483647) (s * 20) c k b' bi → jt_Cpy (dd * 20) 0 f r b'' b' → post (nI f) (nI f, b'', upd (upd bc s (nI k)) dd (nI f), r)) :
    ∀ d i f r, f ≤ i → jt_sg r 0 f = (jt_sg bi (s * 20) i).filter (jt_g x) → i + d = c → wY_split_26 post (nI s) x (nI dd) (d + 1) (nI i) (nI f) bi bc r := by
  intro d
  induction d with
  | zero =>
    intro i f r hf hr hi
    have e : i = c := by omega
    rw [e] at hr hf
    refine And.intro (jt_sv hs) (br_t ?_ (jy_rr hs hc h20 x 2147483647 (fun k b' hF => jy_st hd (by omega) (fun b'' hC => h f r k b' b'' hf hr hF hC))))
    rw [jt_sc hs, hc]
    exact nI_le (by omega) (by omega)
  | succ d ih =>
    intro i f r hf hr hi
    have hb : s * 20 + i < 80 := by omega
    have e0 : bi (nI s * 20 + nI i).toNatClampNeg = bi (s * 20 + i) := by rw [jt_ixc hb]
    refine And.intro (jt_sv hs) (br_f ?_ (And.intro (jt_ixv hb) ?_))
    · rw [jt_sc hs, hc]
      exact nI_ge (by omega) (by omega)
    · rw [e0]
      refine br_c (fun q => nm_r (nI_1 i) (ih (i + 1) f r (by omega) ?_ (by omega))) (fun q => And.intro (jt_ixv hb) (And.intro (vp_in_nI (by omega) (by decide)) (nm_r ?_ (nm_r (nI_1 f) (nm_r (nI_1 i) (ih (i + 1) (f + 1) (upd r f (bi (s * 20 + i))) (by omega) ?_ (by omega)))))))
      · have hn : ¬ jt_g x (bi (s * 20 + i)) = true := fun w => Int32.not_lt.mpr (jt_gi.mp w) q
        rw [hr, jt_sS bi (s * 20) i, List.filter_append, List.filter_cons_of_neg hn]
        exact (List.append_nil _).symm
      · rw [nI_clamp (by omega)]
      · have hn : jt_g x (bi (s * 20 + i)) = true := jt_gi.mpr (Int32.not_lt.mp q)
        rw [jt_snoc, hr, jt_sS bi (s * 20) i, List.filter_append, List.filter_cons_of_pos hn]
        rfl
theorem jy_wiL {f : Int32} {bi bc br : Nat → Int32} {a b ca cb : Nat} (ha : a < 4) (hb : b < 4) (hca : bc a = nI ca) (hcb : bc b = nI cb) (la : ca ≤ 20) (lb : cb ≤ 20) (post : Int32 → Prop)
    (hT : (∀ z, z ∈ jt_sg bi (a * 20) ca → z ∈ jt_sg bi (b * 20) cb) → post 1) (hF : (¬ ∀ z, z ∈ jt_sg bi (a * 20) ca → z ∈ jt_sg bi (b * 20) cb) → post 0) :
    ∀ d i, i + d = ca → (∀ t, t < i → bi (a * 20 + t) ∈ jt_sg bi (b * 20) cb) → wY_within_20 post (nI a) (nI b) f bi bc br (d + 1) (nI i) := by
  intro d
  induction d with
  | zero =>
    intro i hi hn
    refine And.intro (jt_sv ha) (br_t ?_ (hT ?_))
    · rw [jt_sc ha, hca]
      exact nI_le (by omega) (by omega)
    · intro z hz
      obtain ⟨t, h1, h2⟩ := jt_mem.mp hz
      rw [← h2]
      exact hn t (by omega)
  | succ d ih =>
    intro i hi hn
    have hx : a * 20 + i < 80 := by omega
    refine And.intro (jt_sv ha) (br_f ?_ (And.intro (jt_ixv hx) ?_))
    · rw [jt_sc ha, hca]
      exact nI_ge (by omega) (by omega)
    · rw [jt_ixc hx]
      refine jy_has hb hcb lb _ (fun hz => br_f (by decide) (nm_r (nI_1 i) (ih (i + 1) (by omega) ?_))) (fun hz => br_t rfl (hF ?_))
      · intro t ht
        by_cases e : t = i
        · rw [e]; exact hz
        · exact hn t (by omega)
      · intro q
        exact hz (q _ (jt_mem.mpr ⟨i, by omega, rfl⟩))
theorem jy_wi {f : Int32} {bi bc br : Nat → Int32} {a b ca cb : Nat} (ha : a < 4) (hb : b < 4) (hca : bc a = nI ca) (hcb : bc b = nI cb) (la : ca ≤ 20) (lb : cb ≤ 20) {post : Int32 → Prop}
    (hT : (∀ z, z ∈ jt_sg bi (a * 20) ca → z ∈ jt_sg bi (b * 20) cb) → post 1) (hF : (¬ ∀ z, z ∈ jt_sg bi (a * 20) ca → z ∈ jt_sg bi (b * 20) cb) → post 0) : wpY_within post (f, bi, bc, br) (nI a) (nI b) := by
  have h2 := jy_wiL (f := f) (br := br) ha hb hca hcb la lb post hT hF ca 0 (by omega) (fun t ht => by omega)
  rw [nI_0] at h2
  unfold wpY_within
  exact jy_isT ha (br_f (by decide) (jy_isT hb (br_f (by decide) (Exists.intro _ h2))))
theorem jy_atL {f : Int32} {bi bc br : Nat → Int32} {s c : Nat} (hs : s < 4) (hc : bc s = nI c) (h20 : c ≤ 20) (k rv : Int32) (post : Int32 → Prop) (h1 : ∀ t, t < c → nI ((jt_sg bi (s * 20) c).countP (jt_l (bi (s * 20 + t)))) = k → bi (s * 20 + t) = rv)
    (h0 : (∀ t, t < c → ¬ nI ((jt_sg bi (s * 20) c).countP (jt_l (bi (s * 20 + t)))) = k) → rv = 0) (h : post rv) :
    ∀ d i, i + d = c → (∀ t, t < i → ¬ nI ((jt_sg bi (s * 20) c).countP (jt_l (bi (s * 20 + t)))) = k) → wY_at_2 post (nI s) k f bi bc br (d + 1) (nI i) := by
  intro d
  induction d with
  | zero =>
    intro i hi hn
    have e : i = c := by omega
    rw [e] at hn
    unfold wY_at_2
    refine jy_isT hs (br_f (by decide) (And.intro (jt_sv hs) (br_t ?_ ?_)))
    · rw [jt_sc hs, hc]
      exact nI_le (by omega) (by omega)
    · rw [h0 hn] at h
      exact h
  | succ d ih =>
    intro i hi hn
    have hb : s * 20 + i < 80 := by omega
    unfold wY_at_2
    refine jy_isT hs (br_f (by decide) (And.intro (jt_sv hs) (br_f ?_ (And.intro (jt_ixv hb) ?_))))
    · rw [jt_sc hs, hc]
      exact nI_ge (by omega) (by omega)
    · rw [jt_ixc hb]
      refine jy_rank hs hc h20 _ (br_c (fun q => And.intro (jt_ixv hb) ?_) (fun q => nm_r (nI_1 i) (ih (i + 1) (by omega) ?_)))
      · rw [h1 i (by omega) q]
        exact h
      · intro t ht
        by_cases e : t = i
        · rw [e]; exact q
        · exact hn t (by omega)
theorem jy_at {f : Int32} {bi bc br : Nat → Int32} {s c : Nat} (hs : s < 4) (hc : bc s = nI c) (h20 : c ≤ 20) (k rv : Int32) {post : Int32 → Prop} (h1 : ∀ t, t < c → nI ((jt_sg bi (s * 20) c).countP (jt_l (bi (s * 20 + t)))) = k → bi (s * 20 + t) = rv)
    (h0 : (∀ t, t < c → ¬ nI ((jt_sg bi (s * 20) c).countP (jt_l (bi (s * 20 + t)))) = k) → rv = 0) (h : post rv) : wpY_at post (f, bi, bc, br) (nI s) k := by
  have h2 := jy_atL (f := f) (br := br) hs hc h20 k rv post h1 h0 h c 0 (by omega) (fun t ht => by omega)
  rw [nI_0] at h2
  exact Exists.intro _ h2
end
section
theorem jt_fl {a : Nat → Int32} {b c : Nat} {x : Int32} (h : (jt_sg a b c).Pairwise (· < ·)) : (jt_sg a b c).filter (jt_l x) = jt_sg a b ((jt_sg a b c).countP (jt_l x)) := by
  rw [(jt_sl x h).1, jt_take (jt_cntL _ _ _ _)]
theorem jt_fg {a : Nat → Int32} {b c : Nat} {x : Int32} (h : (jt_sg a b c).Pairwise (· < ·)) : (jt_sg a b c).filter (jt_g x) = jt_sg a (b + (jt_sg a b c).countP (jt_l x)) (c - (jt_sg a b c).countP (jt_l x)) := by
  rw [(jt_sl x h).2, jt_drop (jt_cntL _ _ _ _)]
theorem jt_fgt {a : Nat → Int32} {b c : Nat} {x : Int32} (h : (jt_sg a b c).Pairwise (· < ·)) : (jt_sg a b c).filter (jt_gt x) = jt_sg a (b + (jt_sg a b c).countP (jt_le x)) (c - (jt_sg a b c).countP (jt_le x)) := by
  rw [(jt_sle x h).2, jt_drop (jt_cntL _ _ _ _)]
theorem jt_upds {a : Nat → Int32} {s : Nat} {x : Int32} (h : a s = x) : upd a s x = a := by
  funext j
  by_cases e : j = s
  · rw [e, pk_us, h]
  · rw [pk_un e]
theorem jt_lenP {a a' : Nat → Int32} {b b' n m : Nat} (h : (jt_sg a b n).Perm (jt_sg a' b' m)) : n = m := by
  have h2 := h.length_eq
  rw [jt_len, jt_len] at h2
  exact h2
theorem jt_rem {ai ac bi bc : Nat → Int32} {c : Nat → Nat} (R : jt_R ai ac bi bc c) {s : Nat} (hs : s < 4) {lo hi : Int32} (hl : lo ≤ hi) {a' b' : Nat → Int32} {fr to k' : Nat} (ef : fr = (jt_sg ai (s * 20) (c s)).countP (jt_l lo)) (et : to = (jt_sg ai (s * 20) (c s)).countP (jt_le hi))
    (hC : jt_Cut (s * 20) fr (to - fr) (c s - (to - fr)) a' ai) (hF : jt_Flt (jt_out lo hi) (s * 20) (c s) k' b' bi) : k' = c s - (to - fr) ∧ ∃ c', jt_R a' (upd ac s (nI (c s - (to - fr)))) b' (upd bc s (nI k')) c' := by
  obtain ⟨hac, hbc, h20, hS, hP⟩ := R s hs
  have hft : fr ≤ to := by
    rw [ef, et]
    exact List.countP_mono_left (fun y _ hy => jt_lei.mpr (Int32.le_of_lt (Int32.lt_of_lt_of_le (jt_li.mp hy) hl)))
  have htc : to ≤ c s := by rw [et]; exact jt_cntL _ _ _ _
  have eX : jt_sg a' (s * 20) (c s - (to - fr)) = (jt_sg ai (s * 20) (c s)).filter (jt_l lo) ++ (jt_sg ai (s * 20) (c s)).filter (jt_gt hi) := by
    rw [jt_CutE hC (by omega), jt_fl hS, jt_fgt hS, ← ef, ← et, show s * 20 + fr + (to - fr) = s * 20 + to by omega, show c s - (to - fr) - fr = c s - to by omega]
  have hp : (jt_sg b' (s * 20) k').Perm (jt_sg a' (s * 20) (c s - (to - fr))) := by
    rw [eX, hF.2.2]
    exact (hP.filter _).trans (jt_outP hl)
  have ek := jt_lenP hp
  have hk := hF.1
  refine ⟨ek, ?_⟩
  rw [ek] at hp ⊢
  exact jt_put R (by omega) (fun j hj => hC.1 j (by omega)) (fun j hj => hF.2.1 j (by omega)) (by rw [eX]; exact jt_rng hS hl) hp
theorem jt_remN {ai ac bi bc : Nat → Int32} {c : Nat → Nat} (R : jt_R ai ac bi bc c) {s : Nat} (hs : s < 4) {lo hi : Int32} {b' : Nat → Int32} {k' : Nat} (hall : ∀ y, y ∈ jt_sg ai (s * 20) (c s) → jt_out lo hi y = true)
    (hF : jt_Flt (jt_out lo hi) (s * 20) (c s) k' b' bi) : k' = c s ∧ ∃ c', jt_R ai ac b' (upd bc s (nI k')) c' := by
  obtain ⟨hac, hbc, h20, hS, hP⟩ := R s hs
  have e : jt_sg b' (s * 20) k' = jt_sg bi (s * 20) (c s) := by
    rw [hF.2.2]
    exact List.filter_eq_self.mpr (fun y hy => hall y (hP.mem_iff.mp hy))
  have hp : (jt_sg b' (s * 20) k').Perm (jt_sg ai (s * 20) (c s)) := by rw [e]; exact hP
  have ek := jt_lenP hp
  have hk := hF.1
  rw [ek] at hp
  refine ⟨ek, ?_⟩
  have h2 := jt_put R (d := s) (n := c s) h20 (jt_off0 s ai) (fun j hj => hF.2.1 j (by omega)) hS hp
  rw [jt_upds hac] at h2
  rw [ek]
  exact h2
theorem jt_insR {ai ac bi bc : Nat → Int32} {c : Nat → Nat} (R : jt_R ai ac bi bc c) {s k : Nat} (hs : s < 4) (h19 : c s < 20) {x : Int32} (hx : ¬ x ∈ jt_sg ai (s * 20) (c s)) {a' : Nat → Int32} (ek : k = (jt_sg ai (s * 20) (c s)).countP (jt_l x)) (hI : jt_Ins (s * 20) (c s) k a' ai) :
    ∃ c', jt_R (upd a' (s * 20 + k) x) (upd ac s (nI (c s + 1))) (upd bi (s * 20 + c s) x) (upd bc s (nI (c s + 1))) c' := by
  obtain ⟨hac, hbc, h20, hS, hP⟩ := R s hs
  have hk : k ≤ c s := by rw [ek]; exact jt_cntL _ _ _ _
  have eX : jt_sg (upd a' (s * 20 + k) x) (s * 20) (c s + 1) = (jt_sg ai (s * 20) (c s)).filter (jt_l x) ++ x :: (jt_sg ai (s * 20) (c s)).filter (jt_g x) := by
    rw [jt_InsE hI hk x, jt_fl hS, jt_fg hS, ← ek]
  have eY : jt_sg (upd bi (s * 20 + c s) x) (s * 20) (c s + 1) = jt_sg bi (s * 20) (c s) ++ [x] := by
    have e2 : jt_sg (upd bi (s * 20 + c s) x) (s * 20) (c s) = jt_sg bi (s * 20) (c s) := jt_congr (c s) (fun t ht => pk_un (by omega))
    rw [jt_sS, e2, pk_us]
  refine jt_put R (by omega) (fun j hj => ?_) (fun j hj => ?_) ?_ ?_
  · rw [pk_un (by omega)]
    exact hI.1 j (by omega)
  · exact pk_un (by omega)
  · rw [eX]
    exact jt_insS hS hx
  · rw [eX, eY]
    exact jt_insP hS hP x
theorem jt_max (y : Int32) : y ≤ 2147483647 := by
  have h : (2147483647 : Int32) = Int32.maxValue := by decide
  rw [h]
  exact Int32.le_maxValue y
theorem jt_outM (x y : Int32) : jt_out x 2147483647 y = jt_l x y := by
  have h : jt_gt 2147483647 y = false := decide_eq_false (Int32.not_lt.mpr (jt_max y))
  unfold jt_out
  rw [h, Bool.or_false]
theorem jt_spS {ai ac bi bc : Nat → Int32} {c : Nat → Nat} (R : jt_R ai ac bi bc c) {s k : Nat} (hs : s < 4) {x : Int32} (ek : k = (jt_sg ai (s * 20) (c s)).countP (jt_l x)) {a' r b' b'' : Nat → Int32} {f k1 : Nat} (hC : jt_Cut (s * 20) 0 (k - 0) (c s - (k - 0)) a' ai) (hr : jt_sg r 0 f = (jt_sg bi (s * 20) (c s)).filter (jt_g x))
    (hF : jt_Flt (jt_out x 2147483647) (s * 20) (c s) k1 b' bi) (hD : jt_Cpy (s * 20) 0 f r b'' b') : f = c s - (k - 0) ∧ ∃ c', jt_R a' (upd ac s (nI (c s - (k - 0)))) b'' (upd (upd bc s (nI k1)) s (nI f)) c' := by
  obtain ⟨hac, hbc, h20, hS, hP⟩ := R s hs
  have hk : k ≤ c s := by rw [ek]; exact jt_cntL _ _ _ _
  have eX : jt_sg a' (s * 20) (c s - (k - 0)) = (jt_sg ai (s * 20) (c s)).filter (jt_g x) := by
    rw [jt_CutE hC (by omega), jt_fg hS, ← ek, jt_s0, List.nil_append, show s * 20 + 0 + (k - 0) = s * 20 + k by omega, show c s - (k - 0) - 0 = c s - k by omega]
  have hp : (jt_sg b'' (s * 20) f).Perm (jt_sg a' (s * 20) (c s - (k - 0))) := by
    rw [jt_CpyE hD, hr, eX]
    exact hP.filter _
  have ef := jt_lenP hp
  have hk1 := hF.1
  refine ⟨ef, ?_⟩
  rw [jt_updu]
  rw [ef] at hp hD ⊢
  exact jt_put R (by omega) (fun j hj => hC.1 j (by omega)) (fun j hj => (hD.1 j (by omega)).trans (hF.2.1 j (by omega))) (by rw [eX]; exact hS.filter _) hp
theorem jt_spD {ai ac bi bc : Nat → Int32} {c : Nat → Nat} (R : jt_R ai ac bi bc c) {s d k : Nat} (hs : s < 4) (hd : d < 4) (hsd : s ≠ d) {x : Int32} (ek : k = (jt_sg ai (s * 20) (c s)).countP (jt_l x)) {a' r b' b'' : Nat → Int32} {f k1 : Nat} (hC : jt_Cpy (d * 20) (s * 20 + k) (c s - k) ai a' ai)
    (hr : jt_sg r 0 f = (jt_sg bi (s * 20) (c s)).filter (jt_g x)) (hF : jt_Flt (jt_out x 2147483647) (s * 20) (c s) k1 b' bi) (hD : jt_Cpy (d * 20) 0 f r b'' b') :
    f = c s - k ∧ ∃ c', jt_R a' (upd (upd ac d (nI (c s - k))) s (nI k)) b'' (upd (upd bc s (nI k1)) d (nI f)) c' := by
  obtain ⟨hac, hbc, h20, hS, hP⟩ := R s hs
  have hk : k ≤ c s := by rw [ek]; exact jt_cntL _ _ _ _
  have eX : jt_sg a' (d * 20) (c s - k) = (jt_sg ai (s * 20) (c s)).filter (jt_g x) := by
    rw [jt_CpyE hC, jt_fg hS, ← ek]
  have eK : jt_sg ai (s * 20) k = (jt_sg ai (s * 20) (c s)).filter (jt_l x) := by
    rw [jt_fl hS, ← ek]
  have eB : jt_sg b' (s * 20) k1 = (jt_sg bi (s * 20) (c s)).filter (jt_l x) := by
    rw [hF.2.2]
    exact List.filter_congr (fun y _ => jt_outM x y)
  have hp1 : (jt_sg b' (s * 20) k1).Perm (jt_sg ai (s * 20) k) := by
    rw [eB, eK]
    exact hP.filter _
  have e1 := jt_lenP hp1
  have hp : (jt_sg b'' (d * 20) f).Perm (jt_sg a' (d * 20) (c s - k)) := by
    rw [jt_CpyE hD, hr, eX]
    exact hP.filter _
  have ef := jt_lenP hp
  refine ⟨ef, ?_⟩
  have hk1 := hF.1
  rw [e1] at hp1 hF ⊢
  rw [ef] at hp hD ⊢
  obtain ⟨c1, R1⟩ := jt_put R (d := s) (n := k) (by omega) (jt_off0 s ai) (fun j hj => hF.2.1 j (by omega)) (by rw [eK]; exact hS.filter _) hp1
  rw [jt_updc ac hsd]
  exact jt_put R1 (d := d) (n := c s - k) (by omega) (fun j hj => hC.1 j (by omega)) (fun j hj => hD.1 j (by omega)) (by rw [eX]; exact hS.filter _) hp
theorem jt_coR {ai ac bi bc : Nat → Int32} {c : Nat → Nat} (R : jt_R ai ac bi bc c) {d n : Nat} (hn : n ≤ 20) {m r a' b' : Nat → Int32} (hS : (jt_sg m 0 n).Pairwise (· < ·)) (hP : (jt_sg r 0 n).Perm (jt_sg m 0 n)) (hX : jt_Cpy (d * 20) 0 n m a' ai) (hY : jt_Cpy (d * 20) 0 n r b' bi) :
    ∃ c', jt_R a' (upd ac d (nI n)) b' (upd bc d (nI n)) c' := by
  refine jt_put R hn (fun j hj => hX.1 j (by omega)) (fun j hj => hY.1 j (by omega)) ?_ ?_
  · rw [jt_CpyE hX]
    exact hS
  · rw [jt_CpyE hX, jt_CpyE hY]
    exact hP
theorem jt_clR {ai ac bi bc : Nat → Int32} {c : Nat → Nat} (R : jt_R ai ac bi bc c) (s : Nat) : ∃ c', jt_R ai (upd ac s 0) bi (upd bc s 0) c' := by
  have h := jt_put R (d := s) (n := 0) (by omega) (jt_off0 s ai) (jt_off0 s bi) List.Pairwise.nil (List.Perm.refl _)
  rw [nI_0] at h
  exact h
theorem jt_rkB {ai bi : Nat → Int32} {b c t : Nat} (hS : (jt_sg ai b c).Pairwise (· < ·)) (hP : (jt_sg bi b c).Perm (jt_sg ai b c)) (ht : t < c) {k : Nat} : (jt_sg bi b c).countP (jt_l (bi (b + t))) = k ↔ (k < c ∧ ai (b + k) = bi (b + t)) := by
  have hm : bi (b + t) ∈ jt_sg ai b c := hP.mem_iff.mp (jt_mem.mpr ⟨t, ht, rfl⟩)
  rw [hP.countP_eq, jt_rk hS hm]
  constructor
  · intro h
    have h4 := (List.getElem?_eq_some_iff.mp h).1
    rw [jt_len] at h4
    rw [jt_get ai b c k h4] at h
    exact ⟨h4, Option.some.inj h⟩
  · rintro ⟨h4, h⟩
    rw [jt_get ai b c k h4, h]
end
section
def i_Rel (k : Nat) (u : SX) (v : SY) : Prop := ∃ c, jt_R u.1 u.2.1 v.2.1 v.2.2.1 c
theorem i_up {k : Nat} {u : SX} {v : SY} (h : i_Rel k u v) : i_Rel (k + 5) u v := h
theorem jt_rel {k : Nat} {ai ac am bi bc br : Nat → Int32} {f : Int32} (h : ∃ c, jt_R ai ac bi bc c) : i_Rel k (ai, ac, am) (f, bi, bc, br) := h
theorem i_vc0 : wpX_init (fun u => wpY_init (fun v => i_Rel 0 u v)) := by
  refine jt_rel (k := 0) ⟨fun _ => 0, fun s hs => ?_⟩
  exact ⟨rfl, rfl, Nat.zero_le 20, List.Pairwise.nil, List.Perm.refl _⟩
theorem jy_atN {f : Int32} {bi bc br : Nat → Int32} {v x : Int32} (hv : jt_bad v) {post : Int32 → Prop} (h : post 0) : wpY_at post (f, bi, bc, br) v x := by
  refine Exists.intro 1 ?_
  unfold wY_at_2
  exact jy_isF hv (br_t rfl h)
theorem jy_rankN {f : Int32} {bi bc br : Nat → Int32} {v x : Int32} (hv : jt_bad v) {post : Int32 → Prop} (h : post (-1)) : wpY_rank post (f, bi, bc, br) v x := by
  unfold wpY_rank
  exact jy_isF hv (br_t rfl h)
theorem jy_wiN1 {f : Int32} {bi bc br : Nat → Int32} {v x : Int32} (hv : jt_bad v) {post : Int32 → Prop} (h : post 0) : wpY_within post (f, bi, bc, br) v x := by
  unfold wpY_within
  exact jy_isF hv (br_t rfl h)
theorem jy_wiN2 {f : Int32} {bi bc br : Nat → Int32} {s : Nat} {x : Int32} (hs : s < 4) (hv : jt_bad x) {post : Int32 → Prop} (h : post 0) : wpY_within post (f, bi, bc, br) (nI s) x := by
  unfold wpY_within
  exact jy_isT hs (br_f (by decide) (jy_isF hv (br_t rfl h)))
theorem jy_sp {bi bc br : Nat → Int32} {s c dd : Nat} (hs : s < 4) (hd : dd < 4) (hc : bc s = nI c) (h20 : c ≤ 20) (x : Int32) {post : Int32 → SY → Prop}
    (h : ∀ f r k b' b'', f ≤ c → jt_sg r 0 f = (jt_sg bi (s * 20) c).filter (jt_g x) → jt_Flt (jt_out x 2147483647) (s * 20) c k b' bi → jt_Cpy (dd * 20) 0 f r b'' b' → post (nI f) (nI f, b'', upd (upd bc s (nI k)) dd (nI f), r)) :
    ∃ n, wY_split_26 post (nI s) x (nI dd) n 0 0 bi bc br := by
  have h2 := jy_spL hs hd hc h20 x post h c 0 0 br (Nat.le_refl _) rfl (by omega)
  rw [nI_0] at h2
  exact Exists.intro _ h2
end
section
theorem i_vc_add {k : Nat} {u : SX} {v : SY} (I : i_Rel k u v) (hk : k + 5 ≤ 2560) (v1 : Int32) (v2 : Int32) : wpX_add (fun r u' => wpY_add (fun r' v' => r' = r ∧ i_Rel (k + 5) u' v') v v1 v2) u v1 v2 := by
  obtain ⟨ai, ac, am⟩ := u
  obtain ⟨f, bi, bc, br⟩ := v
  obtain ⟨c, R⟩ := I
  have R : jt_R ai ac bi bc c := R
  unfold wpX_add wpY_add
  rcases jt_cases v1 with hb | ⟨s, hs, e⟩
  · exact jx_isF hb (br_t rfl (jy_isF hb (br_t rfl (And.intro rfl (jt_rel ⟨c, R⟩)))))
  · subst e
    obtain ⟨hac, hbc, h20, hS, hP⟩ := R s hs
    refine jx_isT hs (br_f (by decide) (jx_small hs hac h20 v2 (jx_holdL hs hac h20 hS v2 (fun hx => ?_) (fun hx => ?_))))
    · refine br_f (by decide) (jy_isT hs (br_f (by decide) (jy_has hs hbc h20 v2 (fun _ => ?_) (fun hn => absurd (hP.mem_iff.mpr hx) hn))))
      exact br_f (by decide) (And.intro rfl (jt_rel ⟨c, R⟩))
    · have hnM : ¬ v2 ∈ jt_sg bi (s * 20) (c s) := fun q => hx (hP.mem_iff.mp q)
      have lt20 : ac (nI s).toNatClampNeg < 20 ↔ c s < 20 := by
        rw [jt_sc hs, hac]
        exact nI_ltI (b := 20) (by omega) (by decide)
      have eq20 : bc (nI s).toNatClampNeg = 20 ↔ c s = 20 := by
        rw [jt_sc hs, hbc]
        exact nI_eq (b := 20) (by omega) (by decide)
      by_cases h19 : c s < 20
      · refine br_t rfl (And.intro (jt_sv hs) (br_t (lt20.mpr h19) (jx_ins hs hac h19 (jt_cntL _ _ _ _) v2 (fun a' hI => ?_))))
        have e1 : upd bi (nI s * 20 + bc (nI s).toNatClampNeg).toNatClampNeg v2 = upd bi (s * 20 + c s) v2 := by rw [jt_sc hs, hbc, jt_ixc (by omega)]
        have e2 : upd bc (nI s).toNatClampNeg (bc (nI s).toNatClampNeg + 1) = upd bc s (nI (c s + 1)) := by rw [jt_sc hs, hbc, nI_1]
        have vx : vp_in (nI s * 20 + bc (nI s).toNatClampNeg) 80 := by
          rw [jt_sc hs, hbc]
          exact jt_ixv (by omega)
        have n20 : ¬ bc (nI s).toNatClampNeg = 20 := fun q => by
          have := eq20.mp q
          omega
        exact jy_isT hs (br_f (by decide) (jy_has hs hbc h20 v2 (fun q => absurd q hnM) (fun _ => br_t rfl (And.intro (jt_sv hs) (br_f n20 (And.intro (jt_sv hs) (And.intro vx (nm_r e1 (And.intro (jt_sv hs) (And.intro (jt_sv hs) (nm_r e2 (And.intro rfl (jt_rel (jt_insR R hs h19 hx rfl hI))))))))))))))
      · refine br_t rfl (And.intro (jt_sv hs) (br_f (fun q => h19 (lt20.mp q)) ?_))
        exact jy_isT hs (br_f (by decide) (jy_has hs hbc h20 v2 (fun q => absurd q hnM) (fun _ => br_t rfl (And.intro (jt_sv hs) (br_t (eq20.mpr (by omega)) (And.intro rfl (jt_rel ⟨c, R⟩)))))))
theorem i_vc_remove {k : Nat} {u : SX} {v : SY} (I : i_Rel k u v) (hk : k + 5 ≤ 2560) (v1 : Int32) (v2 : Int32) : wpX_remove (fun r u' => wpY_remove (fun r' v' => r' = r ∧ i_Rel (k + 5) u' v') v v1 v2) u v1 v2 := by
  obtain ⟨ai, ac, am⟩ := u
  obtain ⟨f, bi, bc, br⟩ := v
  obtain ⟨c, R⟩ := I
  have R : jt_R ai ac bi bc c := R
  unfold wpX_remove wpY_remove
  rcases jt_cases v1 with hb | ⟨s, hs, e⟩
  · exact jx_isF hb (br_t rfl (jy_rrN hb (And.intro rfl (jt_rel ⟨c, R⟩))))
  · subst e
    obtain ⟨hac, hbc, h20, hS, hP⟩ := R s hs
    refine jx_isT hs (br_f (by decide) (jx_small hs hac h20 v2 (jx_holdL hs hac h20 hS v2 (fun hx => ?_) (fun hx => ?_))))
    · have hle := (jt_cle1 hS hx).symm
      have htc := jt_cntL (jt_le v2) ai (s * 20) (c s)
      rw [← hle] at htc
      refine br_f (by decide) ?_
      rw [nI_1 (List.countP (jt_l v2) (jt_sg ai (s * 20) (c s)))]
      refine jx_cut _ _ hs hac h20 (Nat.le_succ _) htc (fun a' hC => jy_rr hs hbc h20 v2 v2 (fun k' b' hF => ?_))
      obtain ⟨ek, hR⟩ := jt_rem R hs (Int32.le_refl v2) rfl hle hC hF
      have e1 : nI (c s - k') = 1 := by
        rw [show c s - k' = 1 by omega]
        rfl
      exact And.intro e1 (jt_rel hR)
    · refine br_t rfl (jy_rr hs hbc h20 v2 v2 (fun k' b' hF => ?_))
      obtain ⟨ek, hR⟩ := jt_remN R hs (fun y hy => jt_outi.mpr (Int32.lt_or_lt_of_ne (fun q => hx (by rw [← q]; exact hy)))) hF
      have e1 : nI (c s - k') = 0 := by
        rw [show c s - k' = 0 by omega]
        rfl
      exact And.intro e1 (jt_rel hR)
theorem i_vc_has {k : Nat} {u : SX} {v : SY} (I : i_Rel k u v) (hk : k + 5 ≤ 2560) (v1 : Int32) (v2 : Int32) : wpX_has (fun r => wpY_has (fun r' => r' = r ∧ i_Rel (k + 5) u v) v v1 v2) u v1 v2 := by
  obtain ⟨ai, ac, am⟩ := u
  obtain ⟨f, bi, bc, br⟩ := v
  obtain ⟨c, R⟩ := I
  have R : jt_R ai ac bi bc c := R
  unfold wpX_has
  rcases jt_cases v1 with hb | ⟨s, hs, e⟩
  · exact jx_isF hb (br_t rfl (jy_hasN hb (And.intro rfl (jt_rel ⟨c, R⟩))))
  · subst e
    obtain ⟨hac, hbc, h20, hS, hP⟩ := R s hs
    refine jx_isT hs (br_f (by decide) (jx_small hs hac h20 v2 (jx_holdL hs hac h20 hS v2 (fun hx => And.intro rfl ?_) (fun hx => And.intro rfl ?_))))
    · exact jy_has hs hbc h20 v2 (fun _ => And.intro rfl (jt_rel ⟨c, R⟩)) (fun hn => absurd (hP.mem_iff.mpr hx) hn)
    · exact jy_has hs hbc h20 v2 (fun hn => absurd (hP.mem_iff.mp hn) hx) (fun _ => And.intro rfl (jt_rel ⟨c, R⟩))
theorem i_vc_size {k : Nat} {u : SX} {v : SY} (I : i_Rel k u v) (hk : k + 5 ≤ 2560) (v1 : Int32) : wpX_size (fun r => wpY_size (fun r' => r' = r ∧ i_Rel (k + 5) u v) v v1) u v1 := by
  obtain ⟨ai, ac, am⟩ := u
  obtain ⟨f, bi, bc, br⟩ := v
  obtain ⟨c, R⟩ := I
  have R : jt_R ai ac bi bc c := R
  unfold wpX_size wpY_size
  rcases jt_cases v1 with hb | ⟨s, hs, e⟩
  · exact jx_isF hb (br_t rfl (jy_isF hb (br_t rfl (And.intro rfl (jt_rel ⟨c, R⟩)))))
  · subst e
    obtain ⟨hac, hbc, h20, hS, hP⟩ := R s hs
    have e1 : bc (nI s).toNatClampNeg = ac (nI s).toNatClampNeg := by rw [jt_sc hs, hac, hbc]
    exact jx_isT hs (br_f (by decide) (And.intro (jt_sv hs) (jy_isT hs (br_f (by decide) (And.intro (jt_sv hs) (And.intro e1 (jt_rel ⟨c, R⟩)))))))
theorem i_vc_at {k : Nat} {u : SX} {v : SY} (I : i_Rel k u v) (hk : k + 5 ≤ 2560) (v1 : Int32) (v2 : Int32) : wpX_at (fun r => wpY_at (fun r' => r' = r ∧ i_Rel (k + 5) u v) v v1 v2) u v1 v2 := by
  obtain ⟨ai, ac, am⟩ := u
  obtain ⟨f, bi, bc, br⟩ := v
  obtain ⟨c, R⟩ := I
  have R : jt_R ai ac bi bc c := R
  unfold wpX_at
  rcases jt_cases v1 with hb | ⟨s, hs, e⟩
  · exact jx_isF hb (br_t rfl (jy_atN hb (And.intro rfl (jt_rel ⟨c, R⟩))))
  · subst e
    obtain ⟨hac, hbc, h20, hS, hP⟩ := R s hs
    refine jx_isT hs (br_f (by decide) ?_)
    by_cases h0 : v2 < 0
    · refine br_t h0 (jy_at hs hbc h20 v2 0 (fun t ht q => ?_) (fun _ => rfl) (And.intro rfl (jt_rel ⟨c, R⟩)))
      rw [← q] at h0
      have hl := jt_cntL (jt_l (bi (s * 20 + t))) bi (s * 20) (c s)
      exact absurd h0 (nI_pos (by omega))
    · obtain ⟨j, hj, e⟩ := nI_of h0
      subst e
      have lt : nI j < ac (nI s).toNatClampNeg ↔ j < c s := by
        rw [jt_sc hs, hac]
        exact nI_ltI hj (by omega)
      refine br_f h0 (And.intro (jt_sv hs) ?_)
      by_cases hjc : j < c s
      · refine br_t (lt.mpr hjc) (And.intro (jt_ixv (by omega)) ?_)
        rw [jt_ixc (s := s) (k := j) (by omega)]
        refine jy_at hs hbc h20 (nI j) (ai (s * 20 + j)) (fun t ht q => ?_) (fun hall => ?_) (And.intro rfl (jt_rel ⟨c, R⟩))
        · have hl := jt_cntL (jt_l (bi (s * 20 + t))) bi (s * 20) (c s)
          exact ((jt_rkB hS hP ht).mp ((nI_eq (by omega) hj).mp q)).2.symm
        · obtain ⟨t, ht, e⟩ := jt_mem.mp (hP.mem_iff.mpr (jt_mem.mpr ⟨j, hjc, rfl⟩))
          exact absurd (congrArg nI ((jt_rkB hS hP ht).mpr ⟨hjc, e.symm⟩)) (hall t ht)
      · refine br_f (fun q => hjc (lt.mp q)) (jy_at hs hbc h20 (nI j) 0 (fun t ht q => ?_) (fun _ => rfl) (And.intro rfl (jt_rel ⟨c, R⟩)))
        have hl := jt_cntL (jt_l (bi (s * 20 + t))) bi (s * 20) (c s)
        exact absurd ((jt_rkB hS hP ht).mp ((nI_eq (by omega) hj).mp q)).1 hjc
theorem i_vc_rank {k : Nat} {u : SX} {v : SY} (I : i_Rel k u v) (hk : k + 5 ≤ 2560) (v1 : Int32) (v2 : Int32) : wpX_rank (fun r => wpY_rank (fun r' => r' = r ∧ i_Rel (k + 5) u v) v v1 v2) u v1 v2 := by
  obtain ⟨ai, ac, am⟩ := u
  obtain ⟨f, bi, bc, br⟩ := v
  obtain ⟨c, R⟩ := I
  have R : jt_R ai ac bi bc c := R
  unfold wpX_rank
  rcases jt_cases v1 with hb | ⟨s, hs, e⟩
  · exact jx_isF hb (br_t rfl (jy_rankN hb (And.intro rfl (jt_rel ⟨c, R⟩))))
  · subst e
    obtain ⟨hac, hbc, h20, hS, hP⟩ := R s hs
    refine jx_isT hs (br_f (by decide) (jx_small hs hac h20 v2 (jy_rank hs hbc h20 v2 (And.intro ?_ (jt_rel ⟨c, R⟩)))))
    rw [hP.countP_eq]
end
section
theorem i_vc_combine {k : Nat} {u : SX} {v : SY} (I : i_Rel k u v) (hk : k + 5 ≤ 2560) (v1 : Int32) (v2 : Int32) (v3 : Int32) (v4 : Int32) : wpX_combine (fun r u' => wpY_combine (fun r' v' => r' = r ∧ i_Rel (k + 5) u' v') v v1 v2 v3 v4) u v1 v2 v3 v4 := by
  obtain ⟨ai, ac, am⟩ := u
  obtain ⟨f, bi, bc, br⟩ := v
  obtain ⟨c, R⟩ := I
  have R : jt_R ai ac bi bc c := R
  unfold wpX_combine wpY_combine
  rcases pk_ix v1 (n := 4) (by decide) with h0 | h4 | ⟨h, hh, e⟩
  · exact br_t h0 (br_t h0 (And.intro rfl (jt_rel ⟨c, R⟩)))
  · have h4' : (4 : Int32) ≤ v1 := h4
    have h0 : ¬ v1 < 0 := Int32.not_lt.mpr (Int32.le_trans (by decide) h4')
    have h3 : 3 < v1 := Int32.lt_of_lt_of_le (by decide) h4'
    exact br_f h0 (br_t h3 (br_f h0 (br_t h3 (And.intro rfl (jt_rel ⟨c, R⟩)))))
  · subst e
    have h0 : ¬ nI h < 0 := nI_pos (by omega)
    have h3 : ¬ (3 : Int32) < nI h := nI_nlt (a := 3) (by omega) (by decide)
    refine br_f h0 (br_f h3 ?_)
    rcases jt_cases v2 with hb | ⟨d, hd, e⟩
    · exact jx_isF hb (br_t rfl (br_f h0 (br_f h3 (jy_isF hb (br_t rfl (And.intro rfl (jt_rel ⟨c, R⟩)))))))
    · subst e
      refine jx_isT hd (br_f (by decide) ?_)
      rcases jt_cases v3 with hb | ⟨a, ha, e⟩
      · exact jx_isF hb (br_t rfl (br_f h0 (br_f h3 (jy_isT hd (br_f (by decide) (jy_isF hb (br_t rfl (And.intro rfl (jt_rel ⟨c, R⟩)))))))))
      · subst e
        refine jx_isT ha (br_f (by decide) ?_)
        rcases jt_cases v4 with hb | ⟨b, hb, e⟩
        · exact jx_isF hb (br_t rfl (br_f h0 (br_f h3 (jy_isT hd (br_f (by decide) (jy_isT ha (br_f (by decide) (jy_isF hb (br_t rfl (And.intro rfl (jt_rel ⟨c, R⟩)))))))))))
        · subst e
          obtain ⟨aac, abc, a20, aS, aP⟩ := R a ha
          obtain ⟨bac, bbc, b20, bS, bP⟩ := R b hb
          refine jx_isT hb (br_f (by decide) (jx_merge h ha hb aac bac a20 b20 hh aS bS (fun m n h40 hm => ?_)))
          by_cases n20 : n ≤ 20
          · refine br_t (nI_le (b := 20) n20 (by decide)) (jx_take hd n20 (fun a' hX => ?_))
            refine br_f h0 (br_f h3 (jy_isT hd (br_f (by decide) (jy_isT ha (br_f (by decide) (jy_isT hb (br_f (by decide) ?_)))))))
            refine jy_co 0 ha ha hb hh abc abc bbc a20 a20 b20 List.nodup_nil (by omega) (fun f1 r1 h1 => ?_)
            have q1 := h1.1
            rw [jt_len] at q1
            refine jy_co f1 hb ha hb hh bbc abc bbc b20 a20 b20 h1.2.1 (by omega) (fun f2 r2 h2 => ?_)
            have hP2 := jt_comb hm aP bP rfl rfl h1 h2
            have ef := jt_lenP hP2
            subst ef
            exact br_t (nI_le (b := 20) n20 (by decide)) (jy_st hd n20 (fun b' hY => And.intro rfl (jt_rel (jt_coR R n20 hm.1 hP2 hX hY))))
          · have g : ¬ nI n ≤ 20 := nI_ge (a := 20) (by omega) (by omega)
            refine br_f g ?_
            refine br_f h0 (br_f h3 (jy_isT hd (br_f (by decide) (jy_isT ha (br_f (by decide) (jy_isT hb (br_f (by decide) ?_)))))))
            refine jy_co 0 ha ha hb hh abc abc bbc a20 a20 b20 List.nodup_nil (by omega) (fun f1 r1 h1 => ?_)
            have q1 := h1.1
            rw [jt_len] at q1
            refine jy_co f1 hb ha hb hh bbc abc bbc b20 a20 b20 h1.2.1 (by omega) (fun f2 r2 h2 => ?_)
            have hP2 := jt_comb hm aP bP rfl rfl h1 h2
            have ef := jt_lenP hP2
            subst ef
            exact br_f g (And.intro rfl (jt_rel ⟨c, R⟩))
theorem i_vc_split {k : Nat} {u : SX} {v : SY} (I : i_Rel k u v) (hk : k + 5 ≤ 2560) (v1 : Int32) (v2 : Int32) (v3 : Int32) : wpX_split (fun r u' => wpY_split (fun r' v' => r' = r ∧ i_Rel (k + 5) u' v') v v1 v2 v3) u v1 v2 v3 := by
  obtain ⟨ai, ac, am⟩ := u
  obtain ⟨f, bi, bc, br⟩ := v
  obtain ⟨c, R⟩ := I
  have R : jt_R ai ac bi bc c := R
  unfold wpX_split wpY_split
  rcases jt_cases v1 with hb | ⟨s, hs, e⟩
  · exact jx_isF hb (br_t rfl (jy_isF hb (br_t rfl (And.intro rfl (jt_rel ⟨c, R⟩)))))
  · subst e
    refine jx_isT hs (br_f (by decide) ?_)
    rcases jt_cases v3 with hb | ⟨d, hd, e⟩
    · exact jx_isF hb (br_t rfl (jy_isT hs (br_f (by decide) (jy_isF hb (br_t rfl (And.intro rfl (jt_rel ⟨c, R⟩)))))))
    · subst e
      obtain ⟨hac, hbc, h20, hS, hP⟩ := R s hs
      refine jx_isT hd (br_f (by decide) (jx_small hs hac h20 v2 ?_))
      by_cases e : d = s
      · subst e
        refine br_t rfl (jx_cut 0 _ hs hac h20 (Nat.zero_le _) (jt_cntL _ _ _ _) (fun a' hC => And.intro (jt_sv hs) ?_))
        refine jy_isT hs (br_f (by decide) (jy_isT hs (br_f (by decide) (jy_sp hs hs hbc h20 v2 (fun f1 r1 k1 b' b'' hf hr hF hD => ?_)))))
        obtain ⟨ef, hR⟩ := jt_spS R hs rfl hC hr hF hD
        refine And.intro ?_ (jt_rel hR)
        rw [jt_sc hs, pk_us, ef]
      · have ne : ¬ nI d = nI s := fun q => e ((nI_eq (by omega) (by omega)).mp q)
        refine br_f ne (jx_tail hs hd (fun q => e q.symm) hac h20 (jt_cntL _ _ _ _) (fun a' hC => And.intro (jt_sv hd) ?_))
        refine jy_isT hs (br_f (by decide) (jy_isT hd (br_f (by decide) (jy_sp hs hd hbc h20 v2 (fun f1 r1 k1 b' b'' hf hr hF hD => ?_)))))
        obtain ⟨ef, hR⟩ := jt_spD R hs hd (fun q => e q.symm) rfl hC hr hF hD
        refine And.intro ?_ (jt_rel hR)
        rw [jt_sc hd, pk_un e, pk_us, ef]
theorem i_vc_removeRange {k : Nat} {u : SX} {v : SY} (I : i_Rel k u v) (hk : k + 5 ≤ 2560) (v1 : Int32) (v2 : Int32) (v3 : Int32) : wpX_removeRange (fun r u' => wpY_removeRange (fun r' v' => r' = r ∧ i_Rel (k + 5) u' v') v v1 v2 v3) u v1 v2 v3 := by
  obtain ⟨ai, ac, am⟩ := u
  obtain ⟨f, bi, bc, br⟩ := v
  obtain ⟨c, R⟩ := I
  have R : jt_R ai ac bi bc c := R
  unfold wpX_removeRange
  rcases jt_cases v1 with hb | ⟨s, hs, e⟩
  · exact jx_isF hb (br_t rfl (jy_rrN hb (And.intro rfl (jt_rel ⟨c, R⟩))))
  · subst e
    obtain ⟨hac, hbc, h20, hS, hP⟩ := R s hs
    refine jx_isT hs (br_f (by decide) ?_)
    by_cases hl : v2 ≤ v3
    · have fin : ∀ to, to = (jt_sg ai (s * 20) (c s)).countP (jt_le v3) → wX_removeRange_46 (fun r u' => wpY_removeRange (fun r' v' => r' = r ∧ i_Rel (k + 5) u' v') (f, bi, bc, br) (nI s) v2 v3) (nI s) (nI ((jt_sg ai (s * 20) (c s)).countP (jt_l v2))) (nI to) ai ac am := by
        intro to et
        have hft : (jt_sg ai (s * 20) (c s)).countP (jt_l v2) ≤ to := by
          rw [et]
          exact List.countP_mono_left (fun y _ hy => jt_lei.mpr (Int32.le_of_lt (Int32.lt_of_lt_of_le (jt_li.mp hy) hl)))
        have htc : to ≤ c s := by
          rw [et]
          exact jt_cntL _ _ _ _
        unfold wX_removeRange_46
        refine jx_cut _ _ hs hac h20 hft htc (fun a' hC => jy_rr hs hbc h20 v2 v3 (fun k' b' hF => ?_))
        obtain ⟨ek, hR⟩ := jt_rem R hs hl rfl et hC hF
        refine And.intro ?_ (jt_rel hR)
        rw [pk_sub hft]
        exact congrArg nI (by omega)
      refine br_t hl (jx_small hs hac h20 v2 (jx_small hs hac h20 v3 (jx_holdL hs hac h20 hS v3 (fun hx => ?_) (fun hx => ?_))))
      · exact br_f (by decide) (nm_r (nI_1 _) (fin _ (jt_cle1 hS hx).symm))
      · exact br_t rfl (fin _ (jt_cle0 hS hx).symm)
    · refine br_f hl (jy_rr hs hbc h20 v2 v3 (fun k' b' hF => ?_))
      obtain ⟨ek, hR⟩ := jt_remN R hs (fun y hy => jt_outi.mpr ((Int32.lt_or_le y v2).imp id (fun q => Int32.lt_of_lt_of_le (Int32.not_le.mp hl) q))) hF
      have e1 : nI (c s - k') = 0 := by
        rw [show c s - k' = 0 by omega]
        rfl
      exact And.intro e1 (jt_rel hR)
theorem i_vc_same {k : Nat} {u : SX} {v : SY} (I : i_Rel k u v) (hk : k + 5 ≤ 2560) (v1 : Int32) (v2 : Int32) : wpX_same (fun r u' => wpY_same (fun r' => r' = r ∧ i_Rel (k + 5) u' v) v v1 v2) u v1 v2 := by
  obtain ⟨ai, ac, am⟩ := u
  obtain ⟨f, bi, bc, br⟩ := v
  obtain ⟨c, R⟩ := I
  have R : jt_R ai ac bi bc c := R
  unfold wpX_same wpY_same
  rcases jt_cases v1 with hb | ⟨a, ha, e⟩
  · exact jx_isF hb (br_t rfl (jy_wiN1 hb (br_t rfl (And.intro rfl (jt_rel ⟨c, R⟩)))))
  · subst e
    refine jx_isT ha (br_f (by decide) ?_)
    rcases jt_cases v2 with hb | ⟨b, hb, e⟩
    · exact jx_isF hb (br_t rfl (jy_wiN2 ha hb (br_t rfl (And.intro rfl (jt_rel ⟨c, R⟩)))))
    · subst e
      obtain ⟨aac, abc, a20, aS, aP⟩ := R a ha
      obtain ⟨bac, bbc, b20, bS, bP⟩ := R b hb
      refine jx_isT hb (br_f (by decide) (jx_merge 3 ha hb aac bac a20 b20 (by decide) aS bS (fun m n h40 hm => ?_)))
      have hz := jt_eith hm
      rw [jt_len] at hz
      by_cases hn : n = 0
      · have h2 := hz.mp hn
        subst hn
        refine br_t rfl (jy_wi ha hb abc bbc a20 b20 (fun _ => br_f (by decide) (jy_wi hb ha bbc abc b20 a20 (fun _ => br_f (by decide) (And.intro rfl (jt_rel ⟨c, R⟩))) (fun q => absurd ?_ q))) (fun q => absurd ?_ q))
        · exact fun z y => aP.mem_iff.mpr (h2.2 z (bP.mem_iff.mp y))
        · exact fun z y => bP.mem_iff.mpr (h2.1 z (aP.mem_iff.mp y))
      · refine br_f (nI_ne0 (by omega) (by omega)) (jy_wi ha hb abc bbc a20 b20 (fun q1 => br_f (by decide) (jy_wi hb ha bbc abc b20 a20 (fun q2 => absurd (hz.mpr ⟨?_, ?_⟩) hn) (fun _ => br_t rfl (And.intro rfl (jt_rel ⟨c, R⟩))))) (fun _ => br_t rfl (And.intro rfl (jt_rel ⟨c, R⟩))))
        · exact fun z y => bP.mem_iff.mp (q1 z (aP.mem_iff.mpr y))
        · exact fun z y => aP.mem_iff.mp (q2 z (bP.mem_iff.mpr y))
theorem i_vc_within {k : Nat} {u : SX} {v : SY} (I : i_Rel k u v) (hk : k + 5 ≤ 2560) (v1 : Int32) (v2 : Int32) : wpX_within (fun r u' => wpY_within (fun r' => r' = r ∧ i_Rel (k + 5) u' v) v v1 v2) u v1 v2 := by
  obtain ⟨ai, ac, am⟩ := u
  obtain ⟨f, bi, bc, br⟩ := v
  obtain ⟨c, R⟩ := I
  have R : jt_R ai ac bi bc c := R
  unfold wpX_within
  rcases jt_cases v1 with hb | ⟨a, ha, e⟩
  · exact jx_isF hb (br_t rfl (jy_wiN1 hb (And.intro rfl (jt_rel ⟨c, R⟩))))
  · subst e
    refine jx_isT ha (br_f (by decide) ?_)
    rcases jt_cases v2 with hb | ⟨b, hb, e⟩
    · exact jx_isF hb (br_t rfl (jy_wiN2 ha hb (And.intro rfl (jt_rel ⟨c, R⟩))))
    · subst e
      obtain ⟨aac, abc, a20, aS, aP⟩ := R a ha
      obtain ⟨bac, bbc, b20, bS, bP⟩ := R b hb
      refine jx_isT hb (br_f (by decide) (jx_merge 2 ha hb aac bac a20 b20 (by decide) aS bS (fun m n h40 hm => ?_)))
      have hz := jt_less hm
      rw [jt_len] at hz
      by_cases hn : n = 0
      · have h2 := hz.mp hn
        subst hn
        refine br_t rfl (jy_wi ha hb abc bbc a20 b20 (fun _ => And.intro rfl (jt_rel ⟨c, R⟩)) (fun q => absurd ?_ q))
        exact fun z y => bP.mem_iff.mpr (h2 z (aP.mem_iff.mp y))
      · refine br_f (nI_ne0 (by omega) (by omega)) (jy_wi ha hb abc bbc a20 b20 (fun q1 => absurd (hz.mpr ?_) hn) (fun _ => And.intro rfl (jt_rel ⟨c, R⟩)))
        exact fun z y => bP.mem_iff.mp (q1 z (aP.mem_iff.mpr y))
theorem i_vc_ceiling {k : Nat} {u : SX} {v : SY} (I : i_Rel k u v) (hk : k + 5 ≤ 2560) (v1 : Int32) (v2 : Int32) : wpX_ceiling (fun r => wpY_ceiling (fun r' => r' = r ∧ i_Rel (k + 5) u v) v v1 v2) u v1 v2 := by
  obtain ⟨ai, ac, am⟩ := u
  obtain ⟨f, bi, bc, br⟩ := v
  obtain ⟨c, R⟩ := I
  have R : jt_R ai ac bi bc c := R
  unfold wpX_ceiling wpY_ceiling
  rcases jt_cases v1 with hb | ⟨s, hs, e⟩
  · exact jx_isF hb (br_t rfl (jy_isF hb (br_t rfl (And.intro rfl (jt_rel ⟨c, R⟩)))))
  · subst e
    obtain ⟨hac, hbc, h20, hS, hP⟩ := R s hs
    have hl := jt_cntL (jt_l v2) ai (s * 20) (c s)
    have lX : ac (nI s).toNatClampNeg ≤ nI ((jt_sg ai (s * 20) (c s)).countP (jt_l v2)) ↔ c s ≤ (jt_sg ai (s * 20) (c s)).countP (jt_l v2) := by
      rw [jt_sc hs, hac]
      exact nI_leI (by omega) (by omega)
    have ek : (jt_sg bi (s * 20) (c s)).countP (jt_l v2) = (jt_sg ai (s * 20) (c s)).countP (jt_l v2) := hP.countP_eq _
    have lY : bc (nI s).toNatClampNeg ≤ nI ((jt_sg bi (s * 20) (c s)).countP (jt_l v2)) ↔ c s ≤ (jt_sg ai (s * 20) (c s)).countP (jt_l v2) := by
      rw [jt_sc hs, hbc, ek]
      exact nI_leI (by omega) (by omega)
    refine jx_isT hs (br_f (by decide) (jx_small hs hac h20 v2 (And.intro (jt_sv hs) ?_)))
    by_cases hk2 : c s ≤ (jt_sg ai (s * 20) (c s)).countP (jt_l v2)
    · exact br_t (lX.mpr hk2) (jy_isT hs (br_f (by decide) (jy_rank hs hbc h20 v2 (And.intro (jt_sv hs) (br_t (lY.mpr hk2) (And.intro rfl (jt_rel ⟨c, R⟩)))))))
    · exact br_f (fun q => hk2 (lX.mp q)) (jy_isT hs (br_f (by decide) (jy_rank hs hbc h20 v2 (And.intro (jt_sv hs) (br_f (fun q => hk2 (lY.mp q)) (And.intro (congrArg nI ek) (jt_rel ⟨c, R⟩)))))))
theorem i_vc_clear {k : Nat} {u : SX} {v : SY} (I : i_Rel k u v) (hk : k + 5 ≤ 2560) (v1 : Int32) : wpX_clear (fun r u' => wpY_clear (fun r' v' => r' = r ∧ i_Rel (k + 5) u' v') v v1) u v1 := by
  obtain ⟨ai, ac, am⟩ := u
  obtain ⟨f, bi, bc, br⟩ := v
  obtain ⟨c, R⟩ := I
  have R : jt_R ai ac bi bc c := R
  unfold wpX_clear wpY_clear
  rcases jt_cases v1 with hb | ⟨s, hs, e⟩
  · exact jx_isF hb (br_t rfl (jy_isF hb (br_t rfl (And.intro rfl (jt_rel ⟨c, R⟩)))))
  · subst e
    obtain ⟨hac, hbc, h20, hS, hP⟩ := R s hs
    have e1 : ac (nI s).toNatClampNeg = nI (c s) := by rw [jt_sc hs, hac]
    have e2 : upd ac (nI s).toNatClampNeg 0 = upd ac s 0 := by rw [jt_sc hs]
    have e3 : bc (nI s).toNatClampNeg = nI (c s) := by rw [jt_sc hs, hbc]
    have e4 : upd bc (nI s).toNatClampNeg 0 = upd bc s 0 := by rw [jt_sc hs]
    exact jx_isT hs (br_f (by decide) (And.intro (jt_sv hs) (nm_r e1 (And.intro (jt_sv hs) (nm_r e2 (jy_isT hs (br_f (by decide) (And.intro (jt_sv hs) (nm_r e3 (And.intro (jt_sv hs) (nm_r e4 (And.intro rfl (jt_rel (jt_clR R s))))))))))))))
end
