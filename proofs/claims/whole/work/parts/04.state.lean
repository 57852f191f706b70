def jt_R (ai ac bi bc : Nat → Int32) (c : Nat → Nat) : Prop := ∀ s, s < 4 → ac s = nI (c s) ∧ bc s = nI (c s) ∧ c s ≤ 20 ∧ (jt_sg ai (s * 20) (c s)).Pairwise (· < ·) ∧ (jt_sg bi (s * 20) (c s)).Perm (jt_sg ai (s * 20) (c s))
def jt_off (d : Nat) (a' a : Nat → Int32) : Prop := ∀ j, (j < d * 20 ∨ d * 20 + 20 ≤ j) → a' j = a j
theorem jt_off0 (d : Nat) (a : Nat → Int32) : jt_off d a a := fun _ _ => rfl
theorem jt_offT {d : Nat} {a b c : Nat → Int32} (h : jt_off d a b) (g : jt_off d b c) : jt_off d a c := fun j hj => (h j hj).trans (g j hj)
theorem jt_offsg {d s n : Nat} {a' a : Nat → Int32} (h : jt_off d a' a) (hs : s ≠ d) (hn : n ≤ 20) : jt_sg a' (s * 20) n = jt_sg a (s * 20) n :=
  jt_congr n (fun i hi => h (s * 20 + i) (by omega))
theorem jt_put {ai ac bi bc ai' bi' : Nat → Int32} {c : Nat → Nat} (R : jt_R ai ac bi bc c) {d n : Nat} (hn : n ≤ 20) (hx : jt_off d ai' ai) (hy : jt_off d bi' bi)
    (hs : (jt_sg ai' (d * 20) n).Pairwise (· < ·)) (hp : (jt_sg bi' (d * 20) n).Perm (jt_sg ai' (d * 20) n)) : ∃ c', jt_R ai' (upd ac d (nI n)) bi' (upd bc d (nI n)) c' := by
  refine ⟨fun s => if s = d then n else c s, fun s h4 => ?_⟩
  show upd ac d (nI n) s = nI (if s = d then n else c s) ∧ upd bc d (nI n) s = nI (if s = d then n else c s) ∧ (if s = d then n else c s) ≤ 20 ∧ (jt_sg ai' (s * 20) (if s = d then n else c s)).Pairwise (· < ·) ∧ (jt_sg bi' (s * 20) (if s = d then n else c s)).Perm (jt_sg ai' (s * 20) (if s = d then n else c s))
  by_cases e : s = d
  · rw [if_pos e]
    subst e
    rw [pk_us, pk_us]
    exact ⟨rfl, rfl, hn, hs, hp⟩
  · have h20 := (R s h4).2.2.1
    rw [if_neg e, pk_un e, pk_un e, jt_offsg hx e h20, jt_offsg hy e h20]
    exact R s h4
theorem jt_updu (a : Nat → Int32) (s : Nat) (x y : Int32) : upd (upd a s x) s y = upd a s y := by
  funext j
  by_cases e : j = s
  · subst e; rw [pk_us, pk_us]
  · rw [pk_un e, pk_un e, pk_un e]
theorem jt_updc (a : Nat → Int32) {s d : Nat} (h : s ≠ d) (x y : Int32) : upd (upd a d x) s y = upd (upd a s y) d x := by
  funext j
  by_cases e : j = s
  · subst e; rw [pk_us, pk_un h, pk_us]
  · by_cases e2 : j = d
    · subst e2; rw [pk_un e, pk_us, pk_us]
    · rw [pk_un e, pk_un e2, pk_un e2, pk_un e]
def jt_Ins (b c i : Nat) (a' a : Nat → Int32) : Prop := (∀ j, (j ≤ b + i ∨ b + c < j) → a' j = a j) ∧ (∀ t, i ≤ t → t < c → a' (b + t + 1) = a (b + t))
theorem jt_Ins0 (b c : Nat) (a : Nat → Int32) : jt_Ins b c c a a := ⟨fun _ _ => rfl, fun t h1 h2 => by omega⟩
theorem jt_InsS {b c i : Nat} {a' a : Nat → Int32} (h : jt_Ins b c (i + 1) a' a) (hi : i < c) : jt_Ins b c i (upd a' (b + i + 1) (a' (b + i))) a := by
  constructor
  · intro j hj
    rw [pk_un (by omega)]
    exact h.1 j (by omega)
  · intro t h1 h2
    by_cases e : t = i
    · subst e
      rw [pk_us]
      exact h.1 (b + t) (by omega)
    · rw [pk_un (by omega)]
      exact h.2 t (by omega) h2
theorem jt_InsE {b c k : Nat} {a' a : Nat → Int32} (h : jt_Ins b c k a' a) (hk : k ≤ c) (x : Int32) : jt_sg (upd a' (b + k) x) b (c + 1) = jt_sg a b k ++ x :: jt_sg a (b + k) (c - k) := by
  have e : c + 1 = k + ((c - k) + 1) := by omega
  have e1 : jt_sg (upd a' (b + k) x) b k = jt_sg a b k := jt_congr k (fun i hi => by rw [pk_un (by omega)]; exact h.1 _ (by omega))
  have e2 : jt_sg (upd a' (b + k) x) (b + k + 1) (c - k) = jt_sg a (b + k) (c - k) := jt_congr (c - k) (fun i hi => by
    rw [pk_un (by omega)]
    have h2 := h.2 (k + i) (by omega) (by omega)
    rw [show b + k + 1 + i = b + (k + i) + 1 by omega, h2, Nat.add_assoc])
  rw [e, jt_add, jt_cons, e1, e2, pk_us]
def jt_Cut (b fr g i : Nat) (a' a : Nat → Int32) : Prop := (∀ j, (j < b + fr ∨ b + i ≤ j) → a' j = a j) ∧ (∀ t, fr ≤ t → t < i → a' (b + t) = a (b + t + g))
theorem jt_Cut0 (b fr g : Nat) (a : Nat → Int32) : jt_Cut b fr g fr a a := ⟨fun _ _ => rfl, fun t h1 h2 => by omega⟩
theorem jt_CutS {b fr g i : Nat} {a' a : Nat → Int32} (h : jt_Cut b fr g i a' a) (hi : fr ≤ i) : jt_Cut b fr g (i + 1) (upd a' (b + i) (a' (b + i + g))) a := by
  constructor
  · intro j hj
    rw [pk_un (by omega)]
    exact h.1 j (by omega)
  · intro t h1 h2
    by_cases e : t = i
    · subst e
      rw [pk_us]
      exact h.1 _ (by omega)
    · rw [pk_un (by omega)]
      exact h.2 t h1 (by omega)
theorem jt_CutE {b fr g n : Nat} {a' a : Nat → Int32} (h : jt_Cut b fr g n a' a) (hf : fr ≤ n) : jt_sg a' b n = jt_sg a b fr ++ jt_sg a (b + fr + g) (n - fr) := by
  have e : n = fr + (n - fr) := by omega
  have e1 : jt_sg a' b fr = jt_sg a b fr := jt_congr fr (fun i hi => h.1 _ (by omega))
  have e2 : jt_sg a' (b + fr) (n - fr) = jt_sg a (b + fr + g) (n - fr) := jt_congr (n - fr) (fun i hi => by
    have h2 := h.2 (fr + i) (by omega) (by omega)
    rw [show b + fr + i = b + (fr + i) by omega, h2, show b + fr + g + i = b + (fr + i) + g by omega])
  have e3 := jt_add a' b fr (n - fr)
  rw [← e] at e3
  rw [e3, e1, e2]
def jt_Cpy (b q i : Nat) (m a' a : Nat → Int32) : Prop := (∀ j, (j < b ∨ b + i ≤ j) → a' j = a j) ∧ (∀ t, t < i → a' (b + t) = m (q + t))
theorem jt_Cpy0 (b q : Nat) (m a : Nat → Int32) : jt_Cpy b q 0 m a a := ⟨fun _ _ => rfl, fun t h => by omega⟩
theorem jt_CpyS {b q i : Nat} {m a' a : Nat → Int32} (h : jt_Cpy b q i m a' a) : jt_Cpy b q (i + 1) m (upd a' (b + i) (m (q + i))) a := by
  constructor
  · intro j hj
    rw [pk_un (by omega)]
    exact h.1 j (by omega)
  · intro t h2
    by_cases e : t = i
    · subst e
      rw [pk_us]
    · rw [pk_un (by omega)]
      exact h.2 t (by omega)
theorem jt_CpyE {b q n : Nat} {m a' a : Nat → Int32} (h : jt_Cpy b q n m a' a) : jt_sg a' b n = jt_sg m q n := jt_congr n (fun i hi => h.2 i hi)
def jt_Flt (p : Int32 → Bool) (b i k : Nat) (a' a : Nat → Int32) : Prop := k ≤ i ∧ (∀ j, (j < b ∨ b + k ≤ j) → a' j = a j) ∧ jt_sg a' b k = (jt_sg a b i).filter p
theorem jt_Flt0 (p : Int32 → Bool) (b : Nat) (a : Nat → Int32) : jt_Flt p b 0 0 a a := ⟨Nat.le_refl _, fun _ _ => rfl, rfl⟩
theorem jt_FltG {p : Int32 → Bool} {b i k : Nat} {a' a : Nat → Int32} (h : jt_Flt p b i k a' a) : a' (b + i) = a (b + i) := h.2.1 _ (by have := h.1; omega)
theorem jt_FltT {p : Int32 → Bool} {b i k : Nat} {a' a : Nat → Int32} (h : jt_Flt p b i k a' a) (hp : p (a (b + i)) = true) : jt_Flt p b (i + 1) (k + 1) (upd a' (b + k) (a (b + i))) a := by
  have h0 := h.1
  refine ⟨by omega, ?_, ?_⟩
  · intro j hj
    rw [pk_un (by omega)]
    exact h.2.1 j (by omega)
  · have e1 : jt_sg (upd a' (b + k) (a (b + i))) b k = jt_sg a' b k := jt_congr k (fun t ht => pk_un (by omega))
    rw [jt_sS, e1, pk_us, h.2.2, jt_sS a b i, List.filter_append, List.filter_cons_of_pos hp]
    rfl
theorem jt_FltF {p : Int32 → Bool} {b i k : Nat} {a' a : Nat → Int32} (h : jt_Flt p b i k a' a) (hp : ¬ p (a (b + i)) = true) : jt_Flt p b (i + 1) k a' a := by
  have h0 := h.1
  refine ⟨by omega, h.2.1, ?_⟩
  rw [h.2.2, jt_sS a b i, List.filter_append, List.filter_cons_of_neg hp]
  exact (List.append_nil _).symm
theorem jt_cntS (p : Int32 → Bool) (a : Nat → Int32) (b i : Nat) : (jt_sg a b (i + 1)).countP p = (jt_sg a b i).countP p + (if p (a (b + i)) = true then 1 else 0) := by
  rw [jt_sS, List.countP_append, List.countP_singleton]
theorem jt_cntL (p : Int32 → Bool) (a : Nat → Int32) (b n : Nat) : (jt_sg a b n).countP p ≤ n := by
  have h := List.countP_le_length (p := p) (l := jt_sg a b n)
  rw [jt_len] at h
  exact h
theorem jt_memS {a : Nat → Int32} {b i : Nat} {z : Int32} : z ∈ jt_sg a b (i + 1) ↔ z ∈ jt_sg a b i ∨ z = a (b + i) := by
  rw [jt_sS, List.mem_append, List.mem_singleton]
def jt_Col (p : Int32 → Bool) (M0 : List Int32) (a : Nat → Int32) (b i f : Nat) (r : Nat → Int32) : Prop := f ≤ M0.length + i ∧ (jt_sg r 0 f).Nodup ∧ ∀ z, z ∈ jt_sg r 0 f ↔ z ∈ M0 ∨ (z ∈ jt_sg a b i ∧ p z = true)
theorem jt_Col0 (p : Int32 → Bool) (a : Nat → Int32) (b : Nat) {r : Nat → Int32} {f : Nat} (h : (jt_sg r 0 f).Nodup) : jt_Col p (jt_sg r 0 f) a b 0 f r :=
  ⟨by rw [jt_len]; omega, h, fun z => ⟨Or.inl, fun q => q.elim id (fun w => absurd w.1 (by rw [jt_s0]; exact List.not_mem_nil))⟩⟩
theorem jt_ColT {p : Int32 → Bool} {M0 : List Int32} {a : Nat → Int32} {b i f : Nat} {r : Nat → Int32} (h : jt_Col p M0 a b i f r) (hn : ¬ a (b + i) ∈ jt_sg r 0 f) (hp : p (a (b + i)) = true) : jt_Col p M0 a b (i + 1) (f + 1) (upd r f (a (b + i))) := by
  obtain ⟨h0, h1, h2⟩ := h
  have e1 : jt_sg (upd r f (a (b + i))) 0 (f + 1) = jt_sg r 0 f ++ [a (b + i)] := by
    have e2 : jt_sg (upd r f (a (b + i))) 0 f = jt_sg r 0 f := jt_congr f (fun t ht => pk_un (by omega))
    rw [jt_sS, e2, Nat.zero_add, pk_us]
  refine ⟨by omega, ?_, fun z => ?_⟩
  · rw [e1, List.nodup_append]
    refine ⟨h1, List.nodup_cons.mpr ⟨fun q => (nomatch q), List.nodup_nil⟩, ?_⟩
    intro x hx y hy
    rw [List.mem_singleton.mp hy]
    exact fun q => hn (q ▸ hx)
  · rw [e1, List.mem_append, List.mem_singleton, h2 z, jt_memS]
    constructor
    · rintro ((q | q) | q)
      · exact Or.inl q
      · exact Or.inr ⟨Or.inl q.1, q.2⟩
      · exact Or.inr ⟨Or.inr q, by rw [q]; exact hp⟩
    · rintro (q | ⟨q | q, w⟩)
      · exact Or.inl (Or.inl q)
      · exact Or.inl (Or.inr ⟨q, w⟩)
      · exact Or.inr q
theorem jt_ColF {p : Int32 → Bool} {M0 : List Int32} {a : Nat → Int32} {b i f : Nat} {r : Nat → Int32} (h : jt_Col p M0 a b i f r) (hn : a (b + i) ∈ jt_sg r 0 f ∨ ¬ p (a (b + i)) = true) : jt_Col p M0 a b (i + 1) f r := by
  obtain ⟨h0, h1, h2⟩ := h
  refine ⟨by omega, h1, fun z => ?_⟩
  rw [jt_memS]
  constructor
  · intro hz
    rcases (h2 z).mp hz with q | q
    · exact Or.inl q
    · exact Or.inr ⟨Or.inl q.1, q.2⟩
  · rintro (q | ⟨q | q, w⟩)
    · exact (h2 z).mpr (Or.inl q)
    · exact (h2 z).mpr (Or.inr ⟨q, w⟩)
    · rcases hn with g | g
      · rw [q]; exact g
      · rw [q] at w; exact absurd w g
theorem jt_comb {f : Bool → Bool → Bool} {A B T M N : List Int32} {f1 f2 : Nat} {r1 r2 a1 a2 : Nat → Int32} {b1 b2 n1 n2 : Nat} (hT : jt_mok f A B T) (hM : M.Perm A) (hN : N.Perm B) (eM : jt_sg a1 b1 n1 = M) (eN : jt_sg a2 b2 n2 = N)
    (h1 : jt_Col (fun z => f (jt_has M z) (jt_has N z)) [] a1 b1 n1 f1 r1) (h2 : jt_Col (fun z => f (jt_has M z) (jt_has N z)) (jt_sg r1 0 f1) a2 b2 n2 f2 r2) : (jt_sg r2 0 f2).Perm T := by
  apply (List.perm_ext_iff_of_nodup h2.2.1 (jt_nd hT.1)).mpr
  intro z
  have k1 := h1.2.2 z
  have k2 := h2.2.2 z
  rw [eM] at k1
  rw [eN] at k2
  rw [k2, k1, hT.2 z, ← jt_hasc (hM.mem_iff (a := z)), ← jt_hasc (hN.mem_iff (a := z)), ← hM.mem_iff (a := z), ← hN.mem_iff (a := z)]
  constructor
  · rintro ((q | q) | q)
    · exact nomatch q
    · exact ⟨Or.inl q.1, q.2⟩
    · exact ⟨Or.inr q.1, q.2⟩
  · rintro ⟨q | q, w⟩
    · exact Or.inl (Or.inr ⟨q, w⟩)
    · exact Or.inr ⟨q, w⟩
def jt_bad (v : Int32) : Prop := v < 0 ∨ (4 : Int32) ≤ v
theorem jt_cases (v : Int32) : jt_bad v ∨ ∃ s : Nat, s < 4 ∧ v = nI s := by
  rcases pk_ix v (n := 4) (by decide) with h | h | h
  · exact Or.inl (Or.inl h)
  · exact Or.inl (Or.inr h)
  · exact Or.inr h
theorem jt_snoc (r : Nat → Int32) (f : Nat) (x : Int32) : jt_sg (upd r f x) 0 (f + 1) = jt_sg r 0 f ++ [x] := by
  have e2 : jt_sg (upd r f x) 0 f = jt_sg r 0 f := jt_congr f (fun t ht => pk_un (by omega))
  rw [jt_sS, e2, Nat.zero_add, pk_us]
def jt_b (b : Bool) : Int32 := if b = true then 1 else 0
theorem jt_kpc (r : Nat → Int32) (f : Nat) (w : Int32) (T : List Int32) : jt_sg (upd r f w) 0 (f + 1) ++ T = jt_sg r 0 f ++ jt_kp true w T := by
  rw [jt_snoc, jt_kpT, List.append_assoc]
  rfl
