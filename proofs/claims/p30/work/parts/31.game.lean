/-! THE GAME'S LAWS, no machine -/
theorem gv_eq (f : Nat → Bool) (B d v h : Nat) : gv f B (d + 1) v h = if bt B v = 1 then (gv f B d (v + 1) h && gv f B d (v + 1) (h + 2 ^ v)) else (gv f B d (v + 1) h || gv f B d (v + 1) (h + 2 ^ v)) := rfl
theorem pw_s (v : Nat) : 2 ^ (v + 1) = 2 ^ v + 2 ^ v := by rw [Nat.pow_succ]; omega
theorem gv_mono {f g : Nat → Bool} (B : Nat) {n : Nat} (hl : ∀ h, h < 2 ^ n → f h = true → g h = true) : ∀ (d v h : Nat), v + d = n → h < 2 ^ v → gv f B d v h = true → gv g B d v h = true := by
  intro d
  induction d with
  | zero => intro v h hd hh; exact hl h (by rw [← hd, Nat.add_zero]; exact hh)
  | succ d ih =>
    intro v h hd hh
    have h1 := pw_s v
    have a := ih (v + 1) h (by omega) (by omega)
    have b := ih (v + 1) (h + 2 ^ v) (by omega) (by omega)
    rw [gv_eq, gv_eq]
    by_cases e : bt B v = 1
    · rw [if_pos e, if_pos e, Bool.and_eq_true, Bool.and_eq_true]
      exact fun q => ⟨a q.1, b q.2⟩
    · rw [if_neg e, if_neg e, Bool.or_eq_true, Bool.or_eq_true]
      exact fun q => q.imp a b
/-- the builder beats the set S -/
def bs (mf : Nat → Bool) (B n S : Nat) : Bool := gv (lfS B n mf S) B n 0 0
theorem lfS_sub {B n S T : Nat} {mf : Nat → Bool} (hST : ∀ p, bt S p = 1 → bt T p = 1) (h : Nat) (q : lfS B n mf T h = true) : lfS B n mf S h = true := by
  unfold lfS at q ⊢
  rw [Bool.or_eq_true, decide_eq_true_eq] at q ⊢
  rcases q with q | q
  · left
    rcases bt_01 S (pl B h n) with e | e
    · exact e
    · have := hST _ e; omega
  · exact Or.inr q
theorem bs_sub {B n S T : Nat} {mf : Nat → Bool} (hST : ∀ p, bt S p = 1 → bt T p = 1) (q : bs mf B n T = true) : bs mf B n S = true :=
  gv_mono B (n := n) (fun h _ => lfS_sub hST h) n 0 0 (Nat.zero_add n) (by decide) q
theorem bt_zero (p : Nat) : bt 0 p = 0 := by unfold bt; rw [Nat.zero_div]
theorem gv_top {f : Nat → Bool} (hf : ∀ h, f h = true) (B : Nat) : ∀ d v h, gv f B d v h = true := by
  intro d
  induction d with
  | zero => intro v h; exact hf h
  | succ d ih =>
    intro v h
    rw [gv_eq, ih, ih]
    by_cases e : bt B v = 1
    · rw [if_pos e]; rfl
    · rw [if_neg e]; rfl
theorem bs_zero (mf : Nat → Bool) (B n : Nat) : bs mf B n 0 = true := gv_top (fun h => by unfold lfS; rw [bt_zero]; rfl) B n 0 0
theorem bs_full {mf : Nat → Bool} {B n : Nat} (hB : B < 2 ^ n) (hn : n ≤ 9) : bs mf B n (2 ^ 2 ^ pc B - 1) = gv mf B n 0 0 := by
  have := full_gv (v := 0) (h := 0) mf hB hn (Nat.zero_le _) (by decide)
  rw [Nat.sub_zero] at this
  exact this
theorem lt_bits {S k : Nat} (hS : S < 2 ^ k) {p : Nat} (h : bt S p = 1) : p < k := by
  rcases Nat.lt_or_ge p k with h1 | h1
  · exact h1
  · rw [bt_high hS h1] at h; omega
theorem bs_all {mf : Nat → Bool} {B n S : Nat} (hS : S < 2 ^ 2 ^ pc B) (h : bs mf B n (2 ^ 2 ^ pc B - 1) = true) : bs mf B n S = true :=
  bs_sub (fun p hp => full_bit (lt_bits hS hp)) h
theorem bt_pow (p q : Nat) : bt (2 ^ p) q = if q = p then 1 else 0 := by
  have h := bt_or 0 p q
  rw [Nat.zero_or, bt_zero] at h
  exact h
theorem sA_all {B p h : Nat} : ∀ n, sA B p h n = true → ∀ v, v < n → bt B v = 1 → bt p (cnt B v) = bt h v := by
  intro n
  induction n with
  | zero => intro _ v hv; omega
  | succ n ih =>
    intro q v hv e
    rw [show sA B p h (n + 1) = (sA B p h n && (!decide (bt B n = 1) || decide (bt p (cnt B n) = bt h n))) from rfl, Bool.and_eq_true] at q
    rcases Nat.lt_or_ge v n with h1 | h1
    · exact ih q.1 v h1 e
    · have : v = n := by omega
      subst this
      have q2 := q.2
      rw [decide_eq_true e] at q2
      simpa using q2
theorem bt_mod {x w i : Nat} (h : i < w) : bt (x % 2 ^ w) i = bt x i := bt_tb (by rw [Nat.testBit_mod_two_pow, decide_eq_true h, Bool.true_and])
def EX (mf : Nat → Bool) (B n p v h : Nat) : Prop := ∃ x, x < 2 ^ n ∧ x % 2 ^ v = h ∧ pl B x n = p ∧ mf x = true
theorem ex_bit {mf : Nat → Bool} {B n p v h : Nat} (hp : p < 2 ^ cnt B n) (hv : v < n) (e : bt B v = 1) (q : EX mf B n p (v + 1) h) : bt p (cnt B v) = bt h v := by
  obtain ⟨x, hx, hm, hpl, -⟩ := q
  have h1 : sA B p x n = true := (sA_iff B p x n).mpr (by rw [Nat.mod_eq_of_lt hp, hpl])
  rw [sA_all n h1 v hv e, ← hm, bt_mod (Nat.lt_succ_self v)]
theorem ex_split {mf : Nat → Bool} {B n p v h : Nat} (hh : h < 2 ^ v) : EX mf B n p v h ↔ EX mf B n p (v + 1) h ∨ EX mf B n p (v + 1) (h + 2 ^ v) := by
  have key : ∀ x, x % 2 ^ v = h ↔ x % 2 ^ (v + 1) = h ∨ x % 2 ^ (v + 1) = h + 2 ^ v := by
    intro x
    rw [Nat.mod_pow_succ]
    have h1 : x % 2 ^ v < 2 ^ v := Nat.mod_lt _ (pw_pos v)
    have h2 : x / 2 ^ v % 2 < 2 := Nat.mod_lt _ (by decide)
    generalize x % 2 ^ v = a at h1 ⊢
    generalize x / 2 ^ v % 2 = b at h2 ⊢
    generalize 2 ^ v = w at h1 hh ⊢
    rcases (show b = 0 ∨ b = 1 by omega) with rfl | rfl
    · rw [Nat.mul_zero]; omega
    · rw [Nat.mul_one]; omega
  constructor
  · rintro ⟨x, hx, hm, hr⟩
    rcases (key x).mp hm with e | e
    · exact Or.inl ⟨x, hx, e, hr⟩
    · exact Or.inr ⟨x, hx, e, hr⟩
  · rintro (⟨x, hx, hm, hr⟩ | ⟨x, hx, hm, hr⟩)
    · exact ⟨x, hx, (key x).mpr (Or.inl hm), hr⟩
    · exact ⟨x, hx, (key x).mpr (Or.inr hm), hr⟩
theorem pl_lo {B h v : Nat} (hh : h < 2 ^ v) : pl B h (v + 1) = pl B h v := by
  show pl B h v + (bt B v * bt h v) * 2 ^ cnt B v = _
  rw [bt_high hh (Nat.le_refl v), Nat.mul_zero, Nat.zero_mul, Nat.add_zero]
theorem pl_hi {B h v : Nat} (hh : h < 2 ^ v) : pl B (h + 2 ^ v) (v + 1) = pl B h v + bt B v * 2 ^ cnt B v := by
  have a : h + 2 ^ v = h + 1 * 2 ^ v := by rw [Nat.one_mul]
  show pl B (h + 2 ^ v) v + (bt B v * bt (h + 2 ^ v) v) * 2 ^ cnt B v = _
  rw [a, bt_at hh (by decide), Nat.mul_one, pl_congr v (fun i hi => bt_low hh hi)]
theorem one_gv {B n p : Nat} {mf : Nat → Bool} (hp : p < 2 ^ cnt B n) : ∀ d v h, v + d = n → h < 2 ^ v → (gv (lfS B n mf (2 ^ p)) B d v h = true ↔ (p % 2 ^ cnt B v ≠ pl B h v ∨ EX mf B n p v h)) := by
  intro d
  induction d with
  | zero =>
    intro v h hd hh
    have : v = n := by omega
    subst this
    show lfS B v mf (2 ^ p) h = true ↔ _
    unfold lfS
    rw [bt_pow, Nat.mod_eq_of_lt hp, Bool.or_eq_true, decide_eq_true_eq]
    constructor
    · intro q
      by_cases e : pl B h v = p
      · rw [if_pos e] at q
        exact Or.inr ⟨h, hh, Nat.mod_eq_of_lt hh, e, q.resolve_left (by decide)⟩
      · exact Or.inl (fun z => e z.symm)
    · rintro (q | ⟨x, hx, hm, hpl, hf⟩)
      · rw [if_neg (fun z => q z.symm)]; exact Or.inl rfl
      · rw [Nat.mod_eq_of_lt hx] at hm
        subst hm
        exact Or.inr hf
  | succ d ih =>
    intro v h hd hh
    have h1 := pw_s v
    have a := ih (v + 1) h (by omega) (by omega)
    have b := ih (v + 1) (h + 2 ^ v) (by omega) (by omega)
    rw [gv_eq]
    rw [pl_lo hh] at a
    rw [pl_hi hh] at b
    rw [show cnt B (v + 1) = cnt B v + bt B v from rfl] at a b
    rw [ex_split hh]
    by_cases e : bt B v = 1
    · have ea := ex_bit (mf := mf) (h := h) hp (show v < n by omega) e
      have eb := ex_bit (mf := mf) (h := h + 2 ^ v) hp (show v < n by omega) e
      rw [bt_high hh (Nat.le_refl v)] at ea
      rw [show h + 2 ^ v = h + 1 * 2 ^ v by rw [Nat.one_mul], bt_at hh (by decide), Nat.one_mul] at eb
      rw [if_pos e, Bool.and_eq_true, a, b, e, Nat.mod_pow_succ, Nat.one_mul]
      have h2 := pl_lt B h v
      have h3 : p % 2 ^ cnt B v < 2 ^ cnt B v := Nat.mod_lt _ (pw_pos _)
      rw [show p / 2 ^ cnt B v % 2 = bt p (cnt B v) from rfl]
      rcases bt_01 p (cnt B v) with z | z
      · rw [z] at ea eb ⊢
        rw [Nat.mul_zero, Nat.add_zero]
        constructor
        · rintro ⟨q, -⟩
          exact q.imp id Or.inl
        · intro q
          refine ⟨q.imp id (fun r => r.resolve_right (fun w => absurd (eb w) (by decide))), Or.inl (by omega)⟩
      · rw [z] at ea eb ⊢
        rw [Nat.mul_one]
        constructor
        · rintro ⟨-, q⟩
          rcases q with q | q
          · exact Or.inl (by omega)
          · exact Or.inr (Or.inr q)
        · intro q
          refine ⟨Or.inl (by omega), ?_⟩
          rcases q with q | q | q
          · exact Or.inl (by omega)
          · exact absurd (ea q) (by decide)
          · exact Or.inr q
    · have e0 : bt B v = 0 := by have := bt_01 B v; omega
      rw [if_neg e, Bool.or_eq_true, a, b, e0, Nat.zero_mul, Nat.add_zero, Nat.add_zero]
      constructor
      · rintro ((q | q) | (q | q))
        · exact Or.inl q
        · exact Or.inr (Or.inl q)
        · exact Or.inl q
        · exact Or.inr (Or.inr q)
      · rintro (q | q | q)
        · exact Or.inl (Or.inl q)
        · exact Or.inl (Or.inr q)
        · exact Or.inr (Or.inr q)
theorem wy_ex (mf : Nat → Bool) (B n p : Nat) : ∀ h, 0 < wy mf B n p h ↔ ∃ x, x < h ∧ pl B x n = p ∧ mf x = true := by
  intro h
  induction h with
  | zero =>
    constructor
    · intro q; exact absurd q (Nat.lt_irrefl 0)
    · rintro ⟨x, hx, -⟩; omega
  | succ h ih =>
    show 0 < wy mf B n p h + (if p = pl B h n ∧ mf h = true then 1 else 0) ↔ _
    constructor
    · intro q
      by_cases e : p = pl B h n ∧ mf h = true
      · exact ⟨h, Nat.lt_succ_self h, e.1.symm, e.2⟩
      · rw [if_neg e, Nat.add_zero] at q
        obtain ⟨x, hx, r⟩ := ih.mp q
        exact ⟨x, by omega, r⟩
    · rintro ⟨x, hx, r1, r2⟩
      rcases Nat.lt_or_ge x h with e | e
      · have := ih.mpr ⟨x, e, r1, r2⟩; omega
      · have : x = h := by omega
        subst this
        rw [if_pos ⟨r1.symm, r2⟩]; omega
/-- a play alone is beaten just if some choice makes the formula true for it -/
theorem bs_one {B n p : Nat} {mf : Nat → Bool} (hp : p < 2 ^ cnt B n) : bs mf B n (2 ^ p) = true ↔ 0 < wy mf B n p (2 ^ n) := by
  have h1 := one_gv (mf := mf) hp n 0 0 (Nat.zero_add n) (by decide)
  rw [wy_ex]
  refine h1.trans ?_
  constructor
  · rintro (q | ⟨x, hx, -, r⟩)
    · exact absurd (Nat.mod_one p) q
    · exact ⟨x, hx, r⟩
  · rintro ⟨x, hx, r⟩
    exact Or.inr ⟨x, hx, Nat.mod_one x, r⟩
/-! counts -/
def ctp (P : Nat → Bool) : Nat → Nat
  | 0 => 0
  | k + 1 => ctp P k + if P k = true then 1 else 0
theorem ctp_congr {P Q : Nat → Bool} : ∀ {m : Nat}, (∀ k, k < m → P k = Q k) → ctp P m = ctp Q m := by
  intro m
  induction m with
  | zero => intro _; rfl
  | succ m ih =>
    intro h
    show ctp P m + (if P m = true then 1 else 0) = ctp Q m + (if Q m = true then 1 else 0)
    rw [ih (fun k q => h k (by omega)), h m (Nat.lt_succ_self m)]
theorem ctp_add (P : Nat → Bool) (a : Nat) : ∀ b, ctp P (a + b) = ctp P a + ctp (fun k => P (a + k)) b := by
  intro b
  induction b with
  | zero => rfl
  | succ b ih =>
    show ctp P (a + b) + (if P (a + b) = true then 1 else 0) = ctp P a + (ctp (fun k => P (a + k)) b + (if P (a + b) = true then 1 else 0))
    rw [ih, Nat.add_assoc]
theorem ctp_no {P : Nat → Bool} : ∀ {m : Nat}, (∀ k, k < m → P k = false) → ctp P m = 0 := by
  intro m
  induction m with
  | zero => intro _; rfl
  | succ m ih =>
    intro h
    show ctp P m + (if P m = true then 1 else 0) = 0
    rw [ih (fun k q => h k (by omega)), h m (Nat.lt_succ_self m)]; rfl
theorem ctp_all (P : Nat → Bool) (h : ∀ k, P k = true) : ∀ m, ctp P m = m := by
  intro m
  induction m with
  | zero => rfl
  | succ m ih =>
    show ctp P m + (if P m = true then 1 else 0) = m + 1
    rw [ih, h m, if_pos rfl]
theorem pl_ct (B p : Nat) : ∀ v, ctp (fun h => decide (pl B h v = p % 2 ^ cnt B v)) (2 ^ v) = 2 ^ (v - cnt B v) := by
  intro v
  induction v with
  | zero =>
    show 0 + (if decide (pl B 0 0 = p % 2 ^ cnt B 0) = true then 1 else 0) = 1
    rw [if_pos (decide_eq_true (show pl B 0 0 = p % 2 ^ cnt B 0 from (Nat.mod_one p).symm))]
  | succ v ih =>
    have h1 := pw_s v
    have hc := cnt_le B v
    have h3 : p % 2 ^ cnt B v < 2 ^ cnt B v := Nat.mod_lt _ (pw_pos _)
    have q1 : p % 2 ^ cnt B (v + 1) = p % 2 ^ cnt B v + 2 ^ cnt B v * (bt B v * bt p (cnt B v)) := by
      show p % 2 ^ (cnt B v + bt B v) = _
      rcases bt_01 B v with e | e
      · rw [e, Nat.add_zero, Nat.zero_mul, Nat.mul_zero, Nat.add_zero]
      · rw [e, Nat.mod_pow_succ, Nat.one_mul]; rfl
    have q2 : v + 1 - cnt B (v + 1) = v + 1 - (cnt B v + bt B v) := rfl
    rw [h1, ctp_add, q1, q2]
    have lo : ∀ t, ctp (fun h => decide (pl B h (v + 1) = t)) (2 ^ v) = ctp (fun h => decide (pl B h v = t)) (2 ^ v) := fun t => ctp_congr (fun k hk => by show decide (pl B k (v + 1) = t) = _; rw [pl_lo hk])
    have hi : ∀ t, ctp (fun k => decide (pl B (2 ^ v + k) (v + 1) = t)) (2 ^ v) = ctp (fun h => decide (pl B h v + bt B v * 2 ^ cnt B v = t)) (2 ^ v) := fun t => ctp_congr (fun k hk => by show decide (pl B (2 ^ v + k) (v + 1) = t) = _; rw [Nat.add_comm (2 ^ v) k, pl_hi hk])
    rw [lo, hi]
    generalize hr : p % 2 ^ cnt B v = r at ih h3 ⊢
    rcases bt_01 B v with e | e
    · rw [e, Nat.zero_mul, Nat.zero_mul, Nat.mul_zero, Nat.add_zero r]
      rw [ctp_congr (P := fun h => decide (pl B h v + 0 = r)) (Q := fun h => decide (pl B h v = r)) (fun k _ => rfl), ih, show v + 1 - (cnt B v + 0) = (v - cnt B v) + 1 by omega, pw_s]
    · rw [e, Nat.one_mul, Nat.one_mul, show v + 1 - (cnt B v + 1) = v - cnt B v by omega]
      rcases bt_01 p (cnt B v) with z | z
      · rw [z, Nat.mul_zero, Nat.add_zero r, ih]
        rw [ctp_no (P := fun h => decide (pl B h v + 2 ^ cnt B v = r)) (fun k _ => decide_eq_false (by omega)), Nat.add_zero]
      · rw [z, Nat.mul_one]
        rw [ctp_no (P := fun h => decide (pl B h v = r + 2 ^ cnt B v)) (fun k _ => decide_eq_false (by have := pl_lt B k v; omega))]
        rw [ctp_congr (P := fun h => decide (pl B h v + 2 ^ cnt B v = r + 2 ^ cnt B v)) (Q := fun h => decide (pl B h v = r)) (fun k _ => decide_eq_decide.mpr (by omega)), ih, Nat.zero_add]
theorem wy_ct (mf : Nat → Bool) (B n p : Nat) : ∀ h, wy mf B n p h ≤ ctp (fun x => decide (pl B x n = p)) h := by
  intro h
  induction h with
  | zero => exact Nat.le_refl _
  | succ h ih =>
    show wy mf B n p h + (if p = pl B h n ∧ mf h = true then 1 else 0) ≤ ctp (fun x => decide (pl B x n = p)) h + (if decide (pl B h n = p) = true then 1 else 0)
    by_cases e : p = pl B h n ∧ mf h = true
    · rw [if_pos e, if_pos (decide_eq_true e.1.symm)]; omega
    · rw [if_neg e]; omega
theorem wy_max {mf : Nat → Bool} {B n p : Nat} (hp : p < 2 ^ cnt B n) : wy mf B n p (2 ^ n) ≤ 2 ^ (n - cnt B n) := by
  have h1 := wy_ct mf B n p (2 ^ n)
  have h2 := pl_ct B p n
  rw [Nat.mod_eq_of_lt hp] at h2
  rw [h2] at h1
  exact h1
theorem cnt_or_le (x k : Nat) : ∀ v, cnt (x ||| 2 ^ k) v ≤ cnt x v + if k < v then 1 else 0 := by
  intro v
  induction v with
  | zero => exact Nat.zero_le _
  | succ v ih =>
    show cnt (x ||| 2 ^ k) v + bt (x ||| 2 ^ k) v ≤ cnt x v + bt x v + _
    rw [bt_or]
    by_cases e : v = k
    · subst e
      rw [if_neg (Nat.lt_irrefl v)] at ih
      rw [if_pos rfl, if_pos (Nat.lt_succ_self v)]; omega
    · rw [if_neg e]
      by_cases e2 : k < v
      · rw [if_pos e2] at ih; rw [if_pos (by omega)]; omega
      · rw [if_neg e2] at ih; rw [if_neg (by omega)]; omega
theorem pc_or_le (x k : Nat) : pc (x ||| 2 ^ k) ≤ pc x + 1 := by
  have := cnt_or_le x k 9
  unfold pc
  split at this <;> omega
theorem pc_0 : pc 0 = 0 := by decide
theorem cm_le (L a : Nat) : ∀ p, pc (cm L a p) ≤ cnt L p := by
  intro p
  induction p with
  | zero => exact Nat.le_of_eq pc_0
  | succ p ih =>
    show pc (cm L a p ||| if bt L p = 1 then 2 ^ (p % 2 ^ a) else 0) ≤ cnt L p + bt L p
    rcases bt_01 L p with e | e
    · rw [e, if_neg (by decide), Nat.or_zero]; exact ih
    · rw [e, if_pos rfl]
      exact Nat.le_trans (pc_or_le _ _) (Nat.add_le_add_right ih 1)
theorem cm_pc (L a : Nat) : pc (cm L a 8) ≤ pc L := Nat.le_trans (cm_le L a 8) (cnt_mono L (by decide))
/-- copies are at most one for each learned play and variable -/
theorem cp_le (B L : Nat) : ∀ v, cp B L v ≤ pc L * (v - cnt B v) := by
  intro v
  induction v with
  | zero => exact Nat.zero_le _
  | succ v ih =>
    have hc := cnt_le B v
    have h1 := cm_pc L (cnt B v)
    show cp B L v + (if bt B v = 1 then 0 else pc (cm L (cnt B v) 8)) ≤ pc L * (v + 1 - (cnt B v + bt B v))
    rcases bt_01 B v with e | e
    · rw [e, if_neg (by decide), show v + 1 - (cnt B v + 0) = (v - cnt B v) + 1 by omega, Nat.mul_succ]; omega
    · rw [e, if_pos rfl, show v + 1 - (cnt B v + 1) = v - cnt B v by omega]; omega
/-! a way of the builder that wins against each play wins the game -/
theorem an_low {g : Nat → Nat → Bool} {B p q : Nat} : ∀ v, (∀ i, i < cnt B v → bt p i = bt q i) → an g B p v = an g B q v := by
  intro v
  induction v with
  | zero => intro _; rfl
  | succ v ih =>
    intro h
    rw [show cnt B (v + 1) = cnt B v + bt B v from rfl] at h
    show an g B p v + (if bt B v = 1 then bt p (cnt B v) else if g (v + 1) (an g B p v) = true then 0 else 1) * 2 ^ v = an g B q v + (if bt B v = 1 then bt q (cnt B v) else if g (v + 1) (an g B q v) = true then 0 else 1) * 2 ^ v
    rw [ih (fun i hi => h i (by omega))]
    by_cases e : bt B v = 1
    · rw [if_pos e, if_pos e, h (cnt B v) (by omega)]
    · rw [if_neg e, if_neg e]
theorem an_wins {g : Nat → Nat → Bool} {B n : Nat} {mf : Nat → Bool} (hw : ∀ p, p < 2 ^ cnt B n → mf (an g B p n) = true) : ∀ d v, v + d = n → ∀ p, p < 2 ^ cnt B n → gv mf B d v (an g B p v) = true := by
  intro d
  induction d with
  | zero =>
    intro v hd p hp
    have : v = n := by omega
    subst this
    exact hw p hp
  | succ d ih =>
    intro v hd p hp
    rw [gv_eq]
    have hl := an_lt g B p v
    by_cases e : bt B v = 1
    · rw [if_pos e, Bool.and_eq_true]
      have hc : cnt B v + 1 ≤ cnt B n := by
        have := cnt_mono B (show v + 1 ≤ n by omega)
        rw [show cnt B (v + 1) = cnt B v + bt B v from rfl, e] at this
        exact this
      have key : ∀ b, b < 2 → gv mf B d (v + 1) (an g B p v + b * 2 ^ v) = true := by
        intro b hb
        have hm : p % 2 ^ cnt B v < 2 ^ cnt B v := Nat.mod_lt _ (pw_pos _)
        have hq : p % 2 ^ cnt B v + b * 2 ^ cnt B v < 2 ^ cnt B n := by
          refine Nat.lt_of_lt_of_le ?_ (pw_le hc)
          rw [pw_s]
          rcases (show b = 0 ∨ b = 1 by omega) with rfl | rfl <;> omega
        have h1 := ih (v + 1) (by omega) _ hq
        have h2 : an g B (p % 2 ^ cnt B v + b * 2 ^ cnt B v) v = an g B p v := an_low v (fun i hi => by rw [bt_low hm hi, bt_mod hi])
        rw [show an g B (p % 2 ^ cnt B v + b * 2 ^ cnt B v) (v + 1) = an g B (p % 2 ^ cnt B v + b * 2 ^ cnt B v) v + (if bt B v = 1 then bt (p % 2 ^ cnt B v + b * 2 ^ cnt B v) (cnt B v) else if g (v + 1) (an g B (p % 2 ^ cnt B v + b * 2 ^ cnt B v) v) = true then 0 else 1) * 2 ^ v from rfl, if_pos e, h2, bt_at hm hb] at h1
        exact h1
      have k0 := key 0 (by decide)
      have k1 := key 1 (by decide)
      rw [Nat.zero_mul, Nat.add_zero] at k0
      rw [Nat.one_mul] at k1
      exact ⟨k0, k1⟩
    · rw [if_neg e, Bool.or_eq_true]
      have h1 := ih (v + 1) (by omega) p hp
      rw [show an g B p (v + 1) = an g B p v + (if bt B v = 1 then bt p (cnt B v) else if g (v + 1) (an g B p v) = true then 0 else 1) * 2 ^ v from rfl, if_neg e] at h1
      by_cases e2 : g (v + 1) (an g B p v) = true
      · rw [if_pos e2, Nat.zero_mul, Nat.add_zero] at h1; exact Or.inl h1
      · rw [if_neg e2, Nat.one_mul] at h1; exact Or.inr h1
theorem an_win {g : Nat → Nat → Bool} {B n : Nat} {mf : Nat → Bool} (hw : ∀ p, p < 2 ^ cnt B n → mf (an g B p n) = true) : gv mf B n 0 0 = true := an_wins hw n 0 (Nat.zero_add n) 0 (pw_pos _)
/-! one clause more -/
theorem hR_snoc (pos neg : Nat → Int32) (v : Int32) : ∀ (d k : Nat), hR pos neg v k (d + 1) = (hR pos neg v k d && cl1 pos neg v (k + d)) := by
  intro d
  induction d with
  | zero =>
    intro k
    show (cl1 pos neg v k && true) = (true && cl1 pos neg v (k + 0))
    rw [Bool.and_true, Bool.true_and, Nat.add_zero]
  | succ d ih =>
    intro k
    show (cl1 pos neg v k && hR pos neg v (k + 1) (d + 1)) = ((cl1 pos neg v k && hR pos neg v (k + 1) d) && cl1 pos neg v (k + (d + 1)))
    rw [ih (k + 1), Bool.and_assoc, show k + 1 + d = k + (d + 1) by omega]
theorem mC_more {pos neg : Nat → Int32} {C : Nat} (x y : Int32) (h : Nat) (q : mC (upd pos C x) (upd neg C y) (C + 1) h = true) : mC pos neg C h = true := by
  unfold mC at q ⊢
  rw [hR_snoc, Bool.and_eq_true] at q
  rw [← q.1]
  exact hR_congr (nI h) C 0 (fun i _ hi => ⟨(pk_un (by omega)).symm, (pk_un (by omega)).symm⟩)
theorem gv_more {pos neg : Nat → Int32} {B n C : Nat} (x y : Int32) (q : gv (mC (upd pos C x) (upd neg C y) (C + 1)) B n 0 0 = true) : gv (mC pos neg C) B n 0 0 = true :=
  gv_mono B (n := n) (fun h _ => mC_more x y h) n 0 0 (Nat.zero_add n) (by decide) q
