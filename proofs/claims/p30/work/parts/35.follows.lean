/-! THE LAW: whoever wins has a move that wins -/
theorem and1 (x : Int32) : ∃ y, y < 2 ∧ x &&& 1 = nI y := by
  cases e : x.toBitVec.getLsbD 0
  · refine ⟨0, by decide, ?_⟩
    apply Int32.toBitVec_inj.mp
    rw [Int32.toBitVec_and, show (1 : Int32).toBitVec = 1#32 from rfl, BitVec.and_one_eq_setWidth_ofBool_getLsbD, e]; rfl
  · refine ⟨1, by decide, ?_⟩
    apply Int32.toBitVec_inj.mp
    rw [Int32.toBitVec_and, show (1 : Int32).toBitVec = 1#32 from rfl, BitVec.and_one_eq_setWidth_ofBool_getLsbD, e]; rfl
/-- who wins, as it is told -/
def wh (b : Bool) : Int32 := if b = true then 0 else 1
theorem move_step {mf : Nat → Bool} {B n v h : Nat} (hv : v < n) : (∃ x, x < 2 ∧ mvr mf B n v h = nI x ∧ nI (bt B v) = wh (gv mf B (n - v) v h) ∧ gv mf B (n - (v + 1)) (v + 1) (h + x * 2 ^ v) = gv mf B (n - v) v h) ∨ (mvr mf B n v h = -1 ∧ nI (bt B v) ≠ wh (gv mf B (n - v) v h) ∧ ∀ x, x < 2 → gv mf B (n - (v + 1)) (v + 1) (h + x * 2 ^ v) = gv mf B (n - v) v h) := by
  have two : ∀ (P : Nat → Prop), P 0 → P 1 → ∀ x, x < 2 → P x := by
    intro P p0 p1 x hx
    rcases (show x = 0 ∨ x = 1 by omega) with rfl | rfl
    · exact p0
    · exact p1
  rw [gv_step mf B hv]
  unfold mvr wh
  have a0 : h + 0 * 2 ^ v = h := by rw [Nat.zero_mul, Nat.add_zero]
  have a1 : h + 1 * 2 ^ v = h + 2 ^ v := by rw [Nat.one_mul]
  cases e0 : gv mf B (n - (v + 1)) (v + 1) h <;> cases e1 : gv mf B (n - (v + 1)) (v + 1) (h + 2 ^ v) <;> rcases bt_01 B v with e | e <;> rw [e]
  · exact Or.inr ⟨rfl, by decide, two _ (by rw [a0, e0]; rfl) (by rw [a1, e1]; rfl)⟩
  · exact Or.inl ⟨0, by decide, rfl, rfl, by rw [a0, e0]; rfl⟩
  · exact Or.inl ⟨1, by decide, rfl, rfl, by rw [a1, e1]; rfl⟩
  · exact Or.inl ⟨0, by decide, rfl, rfl, by rw [a0, e0]; rfl⟩
  · exact Or.inl ⟨0, by decide, rfl, rfl, by rw [a0, e0]; rfl⟩
  · exact Or.inl ⟨1, by decide, rfl, rfl, by rw [a1, e1]; rfl⟩
  · exact Or.inl ⟨0, by decide, rfl, rfl, by rw [a0, e0]; rfl⟩
  · exact Or.inr ⟨rfl, by decide, two _ (by rw [a0, e0]; rfl) (by rw [a1, e1]; rfl)⟩
theorem follows_loop {N n B C Ln : Nat} {pos neg : Nat → Int32} (hN : 2000 ≤ N) (o : Ok n B C Ln) (p1 : Int32) : ∀ (d v h : Nat) (bits : Nat → Int64), v + d = n → h < 2 ^ v → gv (mC pos neg C) B (n - v) v h = gv (mC pos neg C) B n 0 0 → BT (mC pos neg C) B n 0 bits → ∃ b', BT (mC pos neg C) B n 0 b' ∧ ∀ kont q, d < q → L_L_follows_20 N (nI n) (nI B) (nI C) pos neg p1 (wh (gv (mC pos neg C) B n 0 0)) (nI n) kont q (nI h) (nI v) bits false = kont b' false := by
  have hB := ok_512 o
  have hn := o.1
  intro d
  induction d with
  | zero =>
    intro v h bits hd hh hW hT
    refine ⟨bits, hT, fun kont q hq => ?_⟩
    obtain ⟨q, rfl⟩ : ∃ q', q = q' + 1 := ⟨q - 1, by omega⟩
    rw [L_L_follows_20, if_nle (by omega) (by omega), if_pos (by omega)]
  | succ d ih =>
    intro v h bits hd hh hW hT
    have hv : v < n := by omega
    have q1 := pw_s v
    obtain ⟨b1, e1, t1⟩ := moves_N hN o bits false (.inr hT) hv hh
    obtain ⟨b2, e2, t2⟩ := winnerAt_N hN o b1 false (.inr t1) hv hh
    have e3 := whose_N N hn hB hv
    have fin : ∀ x, x < 2 → gv (mC pos neg C) B (n - (v + 1)) (v + 1) (h + x * 2 ^ v) = gv (mC pos neg C) B n 0 0 → ∃ b', BT (mC pos neg C) B n 0 b' ∧ ∀ kont q, d < q → L_L_follows_20 N (nI n) (nI B) (nI C) pos neg p1 (wh (gv (mC pos neg C) B n 0 0)) (nI n) kont q (nI h ||| (nI x <<< (nI v &&& 31))) (nI v + 1) b2 false = kont b' false := by
      intro x hx hg
      have hl : h + x * 2 ^ v < 2 ^ (v + 1) := by
        rcases (show x = 0 ∨ x = 1 by omega) with rfl | rfl <;> omega
      rw [or_bit hh hx (by omega), nI_1]
      exact ih (v + 1) _ b2 (by omega) hl hg t2
    have step : ∀ (x : Nat) (j : Int32), j = nI x → x < 2 → gv (mC pos neg C) B (n - (v + 1)) (v + 1) (h + x * 2 ^ v) = gv (mC pos neg C) B n 0 0 → (bI (!decide (mvr (mC pos neg C) B n v h < (0 : Int32)))) = (bI (decide (nI (bt B v) = wh (gv (mC pos neg C) B n 0 0)))) → (∀ kont, J_L_follows_96 N p1 (nI v) (mvr (mC pos neg C) B n v h) kont = kont j) → ∃ b', BT (mC pos neg C) B n 0 b' ∧ ∀ kont q, d + 1 < q → L_L_follows_20 N (nI n) (nI B) (nI C) pos neg p1 (wh (gv (mC pos neg C) B n 0 0)) (nI n) kont q (nI h) (nI v) bits false = kont b' false := by
      intro x j ej hx hg hc hJ
      subst ej
      obtain ⟨b', t, hb⟩ := fin x hx hg
      refine ⟨b', t, fun kont q hq => ?_⟩
      obtain ⟨q, rfl⟩ : ∃ q', q = q' + 1 := ⟨q - 1, by omega⟩
      rw [L_L_follows_20, if_nle (by omega) (by omega), if_neg (by omega)]
      refine ob3_e e1 ?_
      refine ob1_e e3 ?_
      refine ob3_e e2 ?_
      refine ite_p (by rw [hW]; rfl) ?_
      refine ite_p hc ?_
      exact (hJ _).trans (hb kont q (by omega))
    rcases move_step (mf := mC pos neg C) (B := B) (h := h) hv with ⟨x, hx, m1, m2, m3⟩ | ⟨m1, m2, m3⟩
    · rw [hW] at m2 m3
      refine step x (nI x) rfl hx m3 ?_ (fun kont => ?_)
      · rw [m1, m2, decide_eq_false (nI_pos (by omega)), decide_eq_true rfl]; rfl
      · unfold J_L_follows_96
        rw [m1, if_neg (nI_pos (by omega))]
    · rw [hW] at m2
      obtain ⟨x, hx, ex⟩ := and1 (p1 >>> (nI v &&& 31))
      refine step x _ ex hx ((m3 x hx).trans hW) ?_ (fun kont => ?_)
      · rw [m1, decide_eq_true (show (-1 : Int32) < 0 by decide), decide_eq_false m2]; rfl
      · unfold J_L_follows_96
        rw [m1, if_pos (by decide)]
theorem follows_ok {N n B C Ln : Nat} {R L : Int32} {pos neg : Nat → Int32} (hN : 2000 ≤ N) (o : Ok n B C Ln) (p1 : Int32) (bits : Nat → Int64) (st : Bool) (hst : st = true ∨ BT (mC pos neg C) B n 0 bits) : ∃ b', F_L_follows N p1 (nI n) (nI B) (nI C) pos neg L R bits st = some (b', false) ∧ BT (mC pos neg C) B n 0 b' := by
  have hn := o.1
  obtain ⟨b1, e1, t1⟩ := winner_N hN o bits st hst
  obtain ⟨b2, t2, e2⟩ := follows_loop hN o p1 n 0 0 b1 (Nat.zero_add n) (by decide) rfl t1
  refine ⟨b2, ?_, t2⟩
  unfold F_L_follows
  refine ob3_e e1 ?_
  refine ob1_e (val0 N _ _ _ _ _) ?_
  exact e2 _ N (by omega)
