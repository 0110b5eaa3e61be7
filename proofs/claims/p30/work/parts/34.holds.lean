/-! THE LAW: what holds -/
theorem ob1_e {α1 β : Type} {x : Option α1} {k : α1 → Option β} {a1 : α1} {r : Option β} (h : x = some a1) (h2 : k a1 = r) : ob1 x k = r := by
  subst h
  exact h2
theorem ob2_e {α1 α2 β : Type} {x : Option (α1 × α2)} {k : α1 → α2 → Option β} {a1 : α1} {a2 : α2} {r : Option β} (h : x = some (a1, a2)) (h2 : k a1 a2 = r) : ob2 x k = r := by
  subst h
  exact h2
theorem ob3_e {α1 α2 α3 β : Type} {x : Option (α1 × α2 × α3)} {k : α1 → α2 → α3 → Option β} {a1 : α1} {a2 : α2} {a3 : α3} {r : Option β} (h : x = some (a1, a2, a3)) (h2 : k a1 a2 a3 = r) : ob3 x k = r := by
  subst h
  exact h2
theorem ob4_e {α1 α2 α3 α4 β : Type} {x : Option (α1 × α2 × α3 × α4)} {k : α1 → α2 → α3 → α4 → Option β} {a1 : α1} {a2 : α2} {a3 : α3} {a4 : α4} {r : Option β} (h : x = some (a1, a2, a3, a4)) (h2 : k a1 a2 a3 a4 = r) : ob4 x k = r := by
  subst h
  exact h2
theorem ob5_e {α1 α2 α3 α4 α5 β : Type} {x : Option (α1 × α2 × α3 × α4 × α5)} {k : α1 → α2 → α3 → α4 → α5 → Option β} {a1 : α1} {a2 : α2} {a3 : α3} {a4 : α4} {a5 : α5} {r : Option β} (h : x = some (a1, a2, a3, a4, a5)) (h2 : k a1 a2 a3 a4 a5 = r) : ob5 x k = r := by
  subst h
  exact h2
theorem ob6_e {α1 α2 α3 α4 α5 α6 β : Type} {x : Option (α1 × α2 × α3 × α4 × α5 × α6)} {k : α1 → α2 → α3 → α4 → α5 → α6 → Option β} {a1 : α1} {a2 : α2} {a3 : α3} {a4 : α4} {a5 : α5} {a6 : α6} {r : Option β} (h : x = some (a1, a2, a3, a4, a5, a6)) (h2 : k a1 a2 a3 a4 a5 a6 = r) : ob6 x k = r := by
  subst h
  exact h2
theorem ob8_e {α1 α2 α3 α4 α5 α6 α7 α8 β : Type} {x : Option (α1 × α2 × α3 × α4 × α5 × α6 × α7 × α8)} {k : α1 → α2 → α3 → α4 → α5 → α6 → α7 → α8 → Option β} {a1 : α1} {a2 : α2} {a3 : α3} {a4 : α4} {a5 : α5} {a6 : α6} {a7 : α7} {a8 : α8} {r : Option β} (h : x = some (a1, a2, a3, a4, a5, a6, a7, a8)) (h2 : k a1 a2 a3 a4 a5 a6 a7 a8 = r) : ob8 x k = r := by
  subst h
  exact h2
theorem ob9_e {α1 α2 α3 α4 α5 α6 α7 α8 α9 β : Type} {x : Option (α1 × α2 × α3 × α4 × α5 × α6 × α7 × α8 × α9)} {k : α1 → α2 → α3 → α4 → α5 → α6 → α7 → α8 → α9 → Option β} {a1 : α1} {a2 : α2} {a3 : α3} {a4 : α4} {a5 : α5} {a6 : α6} {a7 : α7} {a8 : α8} {a9 : α9} {r : Option β} (h : x = some (a1, a2, a3, a4, a5, a6, a7, a8, a9)) (h2 : k a1 a2 a3 a4 a5 a6 a7 a8 a9 = r) : ob9 x k = r := by
  subst h
  exact h2
theorem ob10_e {α1 α2 α3 α4 α5 α6 α7 α8 α9 α10 β : Type} {x : Option (α1 × α2 × α3 × α4 × α5 × α6 × α7 × α8 × α9 × α10)} {k : α1 → α2 → α3 → α4 → α5 → α6 → α7 → α8 → α9 → α10 → Option β} {a1 : α1} {a2 : α2} {a3 : α3} {a4 : α4} {a5 : α5} {a6 : α6} {a7 : α7} {a8 : α8} {a9 : α9} {a10 : α10} {r : Option β} (h : x = some (a1, a2, a3, a4, a5, a6, a7, a8, a9, a10)) (h2 : k a1 a2 a3 a4 a5 a6 a7 a8 a9 a10 = r) : ob10 x k = r := by
  subst h
  exact h2
theorem ob7_e {α1 α2 α3 α4 α5 α6 α7 β : Type} {x : Option (α1 × α2 × α3 × α4 × α5 × α6 × α7)} {k : α1 → α2 → α3 → α4 → α5 → α6 → α7 → Option β} {a1 : α1} {a2 : α2} {a3 : α3} {a4 : α4} {a5 : α5} {a6 : α6} {a7 : α7} {r : Option β} (h : x = some (a1, a2, a3, a4, a5, a6, a7)) (h2 : k a1 a2 a3 a4 a5 a6 a7 = r) : ob7 x k = r := by
  subst h
  exact h2
theorem gd_r {α : Type} {c : Bool} {x r : Option α} (h : c = true) (h2 : x = r) : gd c x = r := (gd_t h).trans h2
theorem ite_c {α : Type} {c : Prop} [Decidable c] {a b r : α} (h1 : c → a = r) (h2 : ¬ c → b = r) : (if c then a else b) = r := by
  by_cases h : c
  · rw [if_pos h]; exact h1 h
  · rw [if_neg h]; exact h2 h
theorem ite_p {α : Type} {c : Prop} [Decidable c] {a b r : α} (h : c) (h1 : a = r) : (if c then a else b) = r := (if_pos h).trans h1
theorem ite_n {α : Type} {c : Prop} [Decidable c] {a b r : α} (h : ¬ c) (h1 : b = r) : (if c then a else b) = r := (if_neg h).trans h1
theorem J201 {N : Nat} {a b w : Int32} {kont r : Option ((Nat → Int64) × Bool)} (h : w = 0 ∨ b = a) (h2 : kont = r) : J_L_holds_201 N a b w kont = r := by
  unfold J_L_holds_201
  by_cases e : w = 0
  · rw [if_pos e]; exact h2
  · rw [if_neg e, if_pos (h.resolve_left e)]; exact h2
theorem J211 {N : Nat} {a b w : Int32} {kont r : Option ((Nat → Int64) × Bool)} (h : b = a ∨ w = 1) (h2 : kont = r) : J_L_holds_211 N a b w kont = r := by
  unfold J_L_holds_211
  by_cases e : b = a
  · rw [if_pos e]; exact h2
  · rw [if_neg e, if_pos (h.resolve_left e)]; exact h2
/-- how many plays have a way, of the first p -/
def hpc (mf : Nat → Bool) (B n : Nat) (p : Nat) : Nat := ctp (fun q => decide (0 < wy mf B n q (2 ^ n))) p
theorem hpc_s (mf : Nat → Bool) (B n p : Nat) : hpc mf B n (p + 1) = hpc mf B n p + if 0 < wy mf B n p (2 ^ n) then 1 else 0 := by
  show ctp _ p + (if decide (0 < wy mf B n p (2 ^ n)) = true then 1 else 0) = _
  by_cases e : 0 < wy mf B n p (2 ^ n)
  · rw [if_pos (decide_eq_true e), if_pos e]; rfl
  · rw [if_neg (by rw [decide_eq_false e]; decide), if_neg e]; rfl
theorem hpc_le (mf : Nat → Bool) (B n p : Nat) : hpc mf B n p ≤ p := by
  induction p with
  | zero => exact Nat.le_refl _
  | succ p ih => rw [hpc_s]; split <;> omega
theorem hpc_all {mf : Nat → Bool} {B n : Nat} : ∀ {p : Nat}, (∀ q, q < p → 0 < wy mf B n q (2 ^ n)) → hpc mf B n p = p := by
  intro p
  induction p with
  | zero => intro _; rfl
  | succ p ih =>
    intro h
    rw [hpc_s, ih (fun q hq => h q (by omega)), if_pos (h p (Nat.lt_succ_self p))]
theorem hpc_ex {mf : Nat → Bool} {B n : Nat} : ∀ {p : Nat}, hpc mf B n p ≠ p → ∃ q, q < p ∧ ¬ 0 < wy mf B n q (2 ^ n) := by
  intro p
  induction p with
  | zero => intro h; exact absurd rfl h
  | succ p ih =>
    intro h
    by_cases e : 0 < wy mf B n p (2 ^ n)
    · rw [hpc_s, if_pos e] at h
      obtain ⟨q, h1, h2⟩ := ih (fun z => h (by rw [z]))
      exact ⟨q, by omega, h2⟩
    · exact ⟨p, Nat.lt_succ_self p, e⟩
theorem pc_pos : ∀ u, u < 256 → 1 ≤ u → 1 ≤ pc u := by decide +kernel
theorem pc_two : ∀ p, p < 8 → pc (2 ^ p) = 1 := by decide +kernel
theorem holds_loop {N n B C Ln : Nat} {R : Int32} {pos neg : Nat → Int32} (hN : 2000 ≤ N) (o : Ok n B C Ln) : ∀ (d p : Nat) (bits : Nat → Int64) (st : Bool), p + d = 2 ^ pc B → (st = true ∨ BT (mC pos neg C) B n 0 bits) → ∃ b' st', (st' = true ∨ BT (mC pos neg C) B n 0 b') ∧ ∀ kont q, d < q → L_L_holds_56 N (nI n) (nI B) (nI C) (nI Ln) R pos neg (nI (2 ^ pc B)) kont q (nI (hpc (mC pos neg C) B n p)) (nI p) bits st = kont (nI (hpc (mC pos neg C) B n (2 ^ pc B))) b' st' := by
  have hB := ok_512 o
  have hn := o.1
  have hp3 := o.2.2.1
  have p1 := pb8 hp3
  have eP := pc_n o.1 o.2.1
  intro d
  induction d with
  | zero =>
    intro p bits st hd hst
    refine ⟨bits, st, hst, fun kont q hq => ?_⟩
    obtain ⟨q, rfl⟩ : ∃ q', q = q' + 1 := ⟨q - 1, by omega⟩
    rw [L_L_holds_56, if_nle (by omega) (by omega), if_pos (by omega), show p = 2 ^ pc B by omega]
  | succ d ih =>
    intro p bits st hd hst
    have hpP : p < 2 ^ pc B := by omega
    have hw := wy_max (mf := mC pos neg C) (n := n) (B := B) (p := p) (by rw [← eP]; exact hpP)
    rw [← eP] at hw
    have hw6 : 2 ^ (n - pc B) ≤ 64 := Nat.le_trans (pw_le o.2.2.2.1) (by decide)
    have hone := bs_one (mf := mC pos neg C) (n := n) (B := B) (p := p) (by rw [← eP]; exact hpP)
    obtain ⟨b1, e1, t1⟩ := beats_N (S := 2 ^ p) hN o bits st hst (Nat.pow_lt_pow_right (by decide) hpP)
    obtain ⟨b2, st2, t2, e2⟩ := ih (p + 1) b1 false (by omega) (.inr t1)
    refine ⟨b2, st2, t2, fun kont q hq => ?_⟩
    obtain ⟨q, rfl⟩ : ∃ q', q = q' + 1 := ⟨q - 1, by omega⟩
    have hh := hpc_le (mC pos neg C) B n p
    rw [L_L_holds_56, if_nle (by omega) (by omega), if_neg (by omega)]
    refine ob1_e (ways_N hN o hpP) ?_
    refine ite_n (nI_pos (by omega)) ?_
    refine ob1_e (val0 N _ _ _ _ _) ?_
    refine ob1_e (val1 N hB _ _ _ _) ?_
    rw [pk_sub (pc_le hn o.2.1), shl1 _ (by have := o.2.2.2.1; omega), shl1 p (by omega)]
    refine ite_n (fun z => by have := (nI_ltI (by omega) (by omega)).mp z; omega) ?_
    refine ob3_e e1 ?_
    generalize hwv : wy (mC pos neg C) B n p (2 ^ n) = w at hone hw ⊢
    have hz : (nI w ≤ (0 : Int32)) ↔ w ≤ 0 := nI_leI (by omega) (b := 0) (by decide)
    refine ite_p ?_ ?_
    · by_cases e : 0 < w
      · rw [hone.mpr e, decide_eq_false (fun z => absurd (hz.mp z) (by omega))]; rfl
      · have : bs (mC pos neg C) B n (2 ^ p) = false := by
          cases eb : bs (mC pos neg C) B n (2 ^ p)
          · rfl
          · exact absurd (hone.mp eb) e
        rw [this, decide_eq_true (hz.mpr (by omega))]; rfl
    · have hs := hpc_s (mC pos neg C) B n p
      rw [hwv] at hs
      rw [show nI (hpc (mC pos neg C) B n p) + bI (!decide (nI w ≤ (0 : Int32))) = nI (hpc (mC pos neg C) B n (p + 1)) from ?_, nI_1]
      · exact e2 kont q (by omega)
      · rw [hs]
        by_cases e : 0 < w
        · rw [if_pos e, decide_eq_false (fun z => absurd (hz.mp z) (by omega))]
          exact nI_1 _
        · rw [if_neg e, decide_eq_true (hz.mpr (by omega))]
          exact nI_add _ 0
theorem holds_ok {N n B C Ln : Nat} {R : Int32} {pos neg : Nat → Int32} (hN : 2000 ≤ N) (o : Ok n B C Ln) (bits : Nat → Int64) (st : Bool) (hst : st = true ∨ BT (mC pos neg C) B n 0 bits) : ∃ b', F_L_holds N (nI n) (nI B) (nI C) pos neg (nI Ln) R bits st = some (b', false) ∧ BT (mC pos neg C) B n 0 b' := by
  have hB := ok_512 o
  have hn := o.1
  have hp3 := o.2.2.1
  have p1 := pb8 hp3
  have p2 := pb256 hp3
  have p3 := pw_pos (2 ^ pc B)
  have hL := ok_L o
  have eP := pc_n o.1 o.2.1
  obtain ⟨b1, st1, t1, e1⟩ := holds_loop (R := R) hN o (2 ^ pc B) 0 bits st (Nat.zero_add _) hst
  obtain ⟨b2, e2, t2⟩ := beats_N (S := 2 ^ 2 ^ pc B - 1) hN o b1 st1 t1 (by omega)
  obtain ⟨r3, b3, e3, t3, l3⟩ := least_N hN o b2 false (.inr t2)
  obtain ⟨b4, e4, t4⟩ := winner_N hN o b3 false (.inr t3)
  obtain ⟨b5, e5, t5⟩ := beats_N (S := 0) hN o b4 false (.inr t4) (pw_pos _)
  have hf := bs_full (mf := mC pos neg C) o.2.1 hn
  have hh := hpc_le (mC pos neg C) B n (2 ^ pc B)
  refine ⟨b5, ?_, t5⟩
  unfold F_L_holds
  refine ob1_e (val6 N hB hp3 _ _ _ _) ?_
  refine ob1_e (val1 N hB _ _ _ _) ?_
  rw [shl1 (pc B) (by omega), shl1 (2 ^ pc B) (by omega), pred_N (pw_pos _)]
  refine ite_p rfl ?_
  refine ob1_e (val3 N (by omega) _ _ _ _) ?_
  refine ob1_e (val4 N _ _ _ _ _) ?_
  refine ob1_e (bits_N (by omega) (by omega)) ?_
  refine ite_p rfl ?_
  refine ob1_e (val4 N _ _ _ _ _) ?_
  refine ite_n (fun z => by have := (nI_leI (by omega) (by omega)).mp z; have := o.2.2.2.2.2; omega) ?_
  refine (e1 _ N (by omega)).trans ?_
  refine ob3_e e2 ?_
  refine ob3_e e3 ?_
  refine ob3_e e4 ?_
  refine ite_p (by rw [hf]; cases gv (mC pos neg C) B n 0 0 <;> rfl) ?_
  refine J201 ?_ ?_
  · cases eb : bs (mC pos neg C) B n (2 ^ 2 ^ pc B - 1)
    · exact Or.inl rfl
    · right
      rw [hpc_all (fun q hq => (bs_one (by rw [← eP]; exact hq)).mp (bs_all (Nat.pow_lt_pow_right (by decide) hq) eb))]
  refine J211 ?_ ?_
  · by_cases e : hpc (mC pos neg C) B n (2 ^ pc B) = 2 ^ pc B
    · exact Or.inl (by rw [e])
    · right
      obtain ⟨q, hq, hz⟩ := hpc_ex e
      have hb : bs (mC pos neg C) B n (2 ^ q) = false := by
        cases eb : bs (mC pos neg C) B n (2 ^ q)
        · rfl
        · exact absurd ((bs_one (by rw [← eP]; exact hq)).mp eb) hz
      have hq2 : 2 ^ q < 2 ^ 2 ^ pc B := Nat.pow_lt_pow_right (by decide) hq
      rcases l3 with ⟨-, l3⟩ | ⟨u, hu1, hu, rfl, -, l3⟩
      · rw [l3 _ hq2] at hb; cases hb
      · have h1 := l3 _ hq2 hb
        rw [pc_two q (by omega)] at h1
        have h2 := pc_pos u (by omega) hu1
        rw [show pc u = 1 by omega]; rfl
  refine ob3_e e5 ?_
  refine ite_p (by rw [bs_zero]; rfl) ?_
  refine ob1_e (copies3_N hN hn hB hp3 o.2.2.2.2.2) ?_
  refine ob1_e (val3 N (by omega) _ _ _ _) ?_
  refine ob1_e (val0 N _ _ _ _ _) ?_
  refine ob1_e (val1 N hB _ _ _ _) ?_
  have hc := cp_le B Ln n
  rw [← eP] at hc
  have hm : pc Ln * (n - pc B) ≤ 9 * 6 := Nat.mul_le_mul (cnt_le Ln 9) o.2.2.2.1
  rw [pk_sub (pc_le hn o.2.1), pk_mul]
  refine ite_n (fun z => by have := (nI_ltI (by omega) (by omega)).mp z; omega) ?_
  refine ite_p ?_ rfl
  rcases l3 with ⟨rfl, l3⟩ | ⟨u, hu1, hu, rfl, hb, l3⟩
  · rw [l3 _ (show 2 ^ 2 ^ pc B - 1 < 2 ^ 2 ^ pc B by omega)]; rfl
  · have : bs (mC pos neg C) B n (2 ^ 2 ^ pc B - 1) = false := by
      cases eb : bs (mC pos neg C) B n (2 ^ 2 ^ pc B - 1)
      · rfl
      · rw [bs_all hu eb] at hb; cases hb
    have h9 : pc u ≤ 9 := cnt_le u 9
    rw [this, decide_eq_true (nI_pos' (show pc u < 2 ^ 31 by omega))]; rfl
