def jt_has (A : List Int32) (z : Int32) : Bool := decide (z ∈ A)
theorem jt_hasi {A : List Int32} {z : Int32} : jt_has A z = true ↔ z ∈ A := decide_eq_true_iff
theorem jt_hasc {A B : List Int32} {z : Int32} (h : z ∈ A ↔ z ∈ B) : jt_has A z = jt_has B z := decide_eq_decide.mpr h
theorem jt_hasb {A : List Int32} {z : Int32} {b : Bool} (h : z ∈ A ↔ b = true) : jt_has A z = b := by
  cases b with
  | true => exact jt_hasi.mpr (h.mpr rfl)
  | false => exact decide_eq_false (fun hz => absurd (h.mp hz) (by decide))
def jt_kp (b : Bool) (x : Int32) (l : List Int32) : List Int32 := if b = true then x :: l else l
theorem jt_kpT (x : Int32) (l : List Int32) : jt_kp true x l = x :: l := rfl
theorem jt_kpF (x : Int32) (l : List Int32) : jt_kp false x l = l := rfl
def jt_mg (f : Bool → Bool → Bool) : Nat → List Int32 → List Int32 → List Int32
  | 0, _, _ => []
  | _ + 1, [], [] => []
  | n + 1, x :: A, [] => jt_kp (f true false) x (jt_mg f n A [])
  | n + 1, [], y :: B => jt_kp (f false true) y (jt_mg f n [] B)
  | n + 1, x :: A, y :: B =>
    if x < y then jt_kp (f true false) x (jt_mg f n A (y :: B))
    else if y < x then jt_kp (f false true) y (jt_mg f n (x :: A) B)
    else jt_kp (f true true) x (jt_mg f n A B)
theorem jt_mg00 (f : Bool → Bool → Bool) (n : Nat) : jt_mg f n [] [] = [] := by
  cases n <;> rfl
theorem jt_mgA (f : Bool → Bool → Bool) (n : Nat) (x : Int32) (A : List Int32) : jt_mg f (n + 1) (x :: A) [] = jt_kp (f true false) x (jt_mg f n A []) := rfl
theorem jt_mgB (f : Bool → Bool → Bool) (n : Nat) (y : Int32) (B : List Int32) : jt_mg f (n + 1) [] (y :: B) = jt_kp (f false true) y (jt_mg f n [] B) := rfl
theorem jt_mgl (f : Bool → Bool → Bool) (n : Nat) {x y : Int32} (A B : List Int32) (h : x < y) : jt_mg f (n + 1) (x :: A) (y :: B) = jt_kp (f true false) x (jt_mg f n A (y :: B)) := by
  show (if x < y then _ else _) = _
  rw [if_pos h]
theorem jt_mgg (f : Bool → Bool → Bool) (n : Nat) {x y : Int32} (A B : List Int32) (h : y < x) : jt_mg f (n + 1) (x :: A) (y :: B) = jt_kp (f false true) y (jt_mg f n (x :: A) B) := by
  show (if x < y then _ else if y < x then _ else _) = _
  rw [if_neg (Int32.not_lt.mpr (Int32.le_of_lt h)), if_pos h]
theorem jt_mge (f : Bool → Bool → Bool) (n : Nat) (x : Int32) (A B : List Int32) : jt_mg f (n + 1) (x :: A) (x :: B) = jt_kp (f true true) x (jt_mg f n A B) := by
  show (if x < x then _ else if x < x then _ else _) = _
  rw [if_neg Int32.lt_irrefl, if_neg Int32.lt_irrefl]
def jt_mok (f : Bool → Bool → Bool) (A B T : List Int32) : Prop := T.Pairwise (· < ·) ∧ ∀ z, z ∈ T ↔ (z ∈ A ∨ z ∈ B) ∧ f (jt_has A z) (jt_has B z) = true
theorem jt_step (f : Bool → Bool → Bool) (wa wb : Bool) (w : Int32) (A B A' B' T : List Int32) (hA : ∀ z, z ∈ A ↔ (wa = true ∧ z = w) ∨ z ∈ A') (hB : ∀ z, z ∈ B ↔ (wb = true ∧ z = w) ∨ z ∈ B') (hw : wa = true ∨ wb = true)
    (h1 : ∀ z, z ∈ A' → w < z) (h2 : ∀ z, z ∈ B' → w < z) (hT : jt_mok f A' B' T) : jt_mok f A B (jt_kp (f wa wb) w T) := by
  have hTw : ∀ z, z ∈ T → w < z := by
    intro z hz
    rcases ((hT.2 z).mp hz).1 with h | h
    · exact h1 z h
    · exact h2 z h
  have nA : ¬ w ∈ A' := fun h => Int32.lt_irrefl (h1 w h)
  have nB : ¬ w ∈ B' := fun h => Int32.lt_irrefl (h2 w h)
  have nT : ¬ w ∈ T := fun h => Int32.lt_irrefl (hTw w h)
  have wA : w ∈ A ↔ wa = true := by
    rw [hA w]
    exact ⟨fun h => h.elim (fun q => q.1) (fun q => absurd q nA), fun h => Or.inl ⟨h, rfl⟩⟩
  have wB : w ∈ B ↔ wb = true := by
    rw [hB w]
    exact ⟨fun h => h.elim (fun q => q.1) (fun q => absurd q nB), fun h => Or.inl ⟨h, rfl⟩⟩
  have eA : jt_has A w = wa := jt_hasb wA
  have eB : jt_has B w = wb := jt_hasb wB
  have eW : (w ∈ A ∨ w ∈ B) ∧ f (jt_has A w) (jt_has B w) = true ↔ f wa wb = true := by
    rw [eA, eB, wA, wB]
    exact ⟨fun h => h.2, fun h => ⟨hw, h⟩⟩
  have eZ : ∀ z, z ≠ w → ((z ∈ A ∨ z ∈ B) ∧ f (jt_has A z) (jt_has B z) = true ↔ z ∈ T) := by
    intro z hz
    have qA : z ∈ A ↔ z ∈ A' := by
      rw [hA z]
      exact ⟨fun h => h.elim (fun q => absurd q.2 hz) id, Or.inr⟩
    have qB : z ∈ B ↔ z ∈ B' := by
      rw [hB z]
      exact ⟨fun h => h.elim (fun q => absurd q.2 hz) id, Or.inr⟩
    rw [hT.2 z, jt_hasc qA, jt_hasc qB, qA, qB]
  cases e : f wa wb with
  | true =>
    rw [jt_kpT]
    refine ⟨List.pairwise_cons.mpr ⟨hTw, hT.1⟩, fun z => ?_⟩
    rw [List.mem_cons]
    by_cases hz : z = w
    · subst hz
      rw [eW, e]
      exact ⟨fun _ => rfl, fun _ => Or.inl rfl⟩
    · rw [eZ z hz]
      exact ⟨fun h => h.elim (fun q => absurd q hz) id, Or.inr⟩
  | false =>
    rw [jt_kpF]
    refine ⟨hT.1, fun z => ?_⟩
    by_cases hz : z = w
    · subst hz
      rw [eW, e]
      exact ⟨fun h => absurd h nT, fun h => absurd h (by decide)⟩
    · exact (eZ z hz).symm
theorem jt_inT {w : Int32} {A : List Int32} : ∀ z, z ∈ w :: A ↔ (true = true ∧ z = w) ∨ z ∈ A := by
  intro z
  rw [List.mem_cons]
  exact ⟨fun h => h.elim (fun q => Or.inl ⟨rfl, q⟩) Or.inr, fun h => h.elim (fun q => Or.inl q.2) Or.inr⟩
theorem jt_inF {w : Int32} {A : List Int32} : ∀ z, z ∈ A ↔ (false = true ∧ z = w) ∨ z ∈ A := by
  intro z
  exact ⟨Or.inr, fun h => h.elim (fun q => absurd q.1 (by decide)) id⟩
theorem jt_mgOk (f : Bool → Bool → Bool) : ∀ (n : Nat) (A B : List Int32), A.Pairwise (· < ·) → B.Pairwise (· < ·) → A.length + B.length ≤ n → jt_mok f A B (jt_mg f n A B) := by
  have h00 : jt_mok f [] [] [] := ⟨List.Pairwise.nil, fun z => ⟨fun h => (nomatch h), fun h => h.1.elim (fun q => (nomatch q)) (fun q => (nomatch q))⟩⟩
  have hn : ∀ w z : Int32, z ∈ ([] : List Int32) → w < z := fun _ _ h => (nomatch h)
  intro n
  induction n with
  | zero =>
    intro A B _ _ hl
    cases A with
    | nil =>
      cases B with
      | nil => exact h00
      | cons y B => rw [List.length_cons] at hl; omega
    | cons x A => rw [List.length_cons] at hl; omega
  | succ n ih =>
    intro A B hA hB hl
    cases A with
    | nil =>
      cases B with
      | nil => exact h00
      | cons y B =>
        have hB' := List.pairwise_cons.mp hB
        rw [List.length_cons] at hl
        rw [jt_mgB]
        exact jt_step f false true y [] (y :: B) [] B _ jt_inF jt_inT (Or.inr rfl) (hn y) hB'.1 (ih [] B hA hB'.2 (by omega))
    | cons x A =>
      have hA' := List.pairwise_cons.mp hA
      cases B with
      | nil =>
        rw [List.length_cons] at hl
        rw [jt_mgA]
        exact jt_step f true false x (x :: A) [] A [] _ jt_inT jt_inF (Or.inl rfl) hA'.1 (hn x) (ih A [] hA'.2 hB (by omega))
      | cons y B =>
        have hB' := List.pairwise_cons.mp hB
        have l1 : (x :: A).length = A.length + 1 := List.length_cons
        have l2 : (y :: B).length = B.length + 1 := List.length_cons
        by_cases h : x < y
        · rw [jt_mgl f n A B h]
          refine jt_step f true false x (x :: A) (y :: B) A (y :: B) _ jt_inT jt_inF (Or.inl rfl) hA'.1 ?_ (ih A (y :: B) hA'.2 hB (by omega))
          intro z hz
          rcases List.mem_cons.mp hz with e | e
          · rw [e]; exact h
          · exact Int32.lt_trans h (hB'.1 z e)
        · by_cases h2 : y < x
          · rw [jt_mgg f n A B h2]
            refine jt_step f false true y (x :: A) (y :: B) (x :: A) B _ jt_inF jt_inT (Or.inr rfl) ?_ hB'.1 (ih (x :: A) B hA hB'.2 (by omega))
            intro z hz
            rcases List.mem_cons.mp hz with e | e
            · rw [e]; exact h2
            · exact Int32.lt_trans h2 (hA'.1 z e)
          · have e : x = y := Int32.le_antisymm (Int32.not_lt.mp h2) (Int32.not_lt.mp h)
            subst e
            rw [jt_mge f n x A B]
            exact jt_step f true true x (x :: A) (x :: B) A B _ jt_inT jt_inT (Or.inl rfl) hA'.1 hB'.1 (ih A B hA'.2 hB'.2 (by omega))
theorem jt_mgLen (f : Bool → Bool → Bool) : ∀ (n : Nat) (A B : List Int32), (jt_mg f n A B).length ≤ n := by
  have hk : ∀ (b : Bool) (w : Int32) (T : List Int32) (n : Nat), T.length ≤ n → (jt_kp b w T).length ≤ n + 1 := by
    intro b w T n h
    cases b with
    | true => rw [jt_kpT, List.length_cons]; omega
    | false => rw [jt_kpF]; omega
  intro n
  induction n with
  | zero => intro A B; exact Nat.le_refl _
  | succ n ih =>
    intro A B
    cases A with
    | nil =>
      cases B with
      | nil => exact Nat.zero_le _
      | cons y B => rw [jt_mgB]; exact hk _ _ _ _ (ih _ _)
    | cons x A =>
      cases B with
      | nil => rw [jt_mgA]; exact hk _ _ _ _ (ih _ _)
      | cons y B =>
        by_cases h : x < y
        · rw [jt_mgl f n A B h]; exact hk _ _ _ _ (ih _ _)
        · by_cases h2 : y < x
          · rw [jt_mgg f n A B h2]; exact hk _ _ _ _ (ih _ _)
          · have e : x = y := Int32.le_antisymm (Int32.not_lt.mp h2) (Int32.not_lt.mp h)
            subst e
            rw [jt_mge f n x A B]; exact hk _ _ _ _ (ih _ _)
def jt_f (h : Nat) (p q : Bool) : Bool := if h = 0 then p || q else if h = 1 then p && q else if h = 2 then p && !q else p != q
theorem jt_len0 {L : List Int32} : L.length = 0 ↔ ∀ z, ¬ z ∈ L := by
  rw [List.length_eq_zero_iff, List.eq_nil_iff_forall_not_mem]
theorem jt_less {A B T : List Int32} (h : jt_mok (jt_f 2) A B T) : T.length = 0 ↔ ∀ z, z ∈ A → z ∈ B := by
  rw [jt_len0]
  constructor
  · intro ht z hz
    apply Decidable.byContradiction
    intro hb
    apply ht z
    rw [h.2 z, jt_hasi.mpr hz, jt_hasb (b := false) ⟨fun q => absurd q hb, fun q => absurd q (by decide)⟩]
    exact ⟨Or.inl hz, rfl⟩
  · intro ha z hz
    have h1 := (h.2 z).mp hz
    by_cases za : z ∈ A
    · have h2 := h1.2
      rw [jt_hasi.mpr za, jt_hasi.mpr (ha z za)] at h2
      exact absurd h2 (by decide)
    · have h2 := h1.2
      rw [jt_hasb (A := A) (b := false) ⟨fun q => absurd q za, fun q => absurd q (by decide)⟩] at h2
      revert h2
      cases jt_has B z <;> decide
theorem jt_eith {A B T : List Int32} (h : jt_mok (jt_f 3) A B T) : T.length = 0 ↔ (∀ z, z ∈ A → z ∈ B) ∧ (∀ z, z ∈ B → z ∈ A) := by
  have hf : ∀ {A : List Int32} {z : Int32}, ¬ z ∈ A → jt_has A z = false := fun hz => jt_hasb ⟨fun q => absurd q hz, fun q => absurd q (by decide)⟩
  rw [jt_len0]
  constructor
  · intro ht
    constructor
    · intro z hz
      apply Decidable.byContradiction
      intro hb
      apply ht z
      rw [h.2 z, jt_hasi.mpr hz, hf hb]
      exact ⟨Or.inl hz, rfl⟩
    · intro z hz
      apply Decidable.byContradiction
      intro hb
      apply ht z
      rw [h.2 z, jt_hasi.mpr hz, hf hb]
      exact ⟨Or.inr hz, rfl⟩
  · intro ha z hz
    have h1 := (h.2 z).mp hz
    have h2 := h1.2
    by_cases za : z ∈ A
    · rw [jt_hasi.mpr za, jt_hasi.mpr (ha.1 z za)] at h2
      exact absurd h2 (by decide)
    · rw [hf za, hf (fun q => za (ha.2 z q))] at h2
      exact absurd h2 (by decide)
