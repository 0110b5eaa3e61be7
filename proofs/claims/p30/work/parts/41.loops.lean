/-! THE LAW: its loops -/
theorem loopA {N L M z : Nat} {R : Int32} {pos neg : Nat → Int32} {bits : Nat → Int64} (hN : 2000 ≤ N) (xs : Nat → Int32) (hL : L ≤ 260) (hz : z < 2 ^ 31) (eM : (1 : Int32) + (nI z - nI z / 6 * 6) = nI M) (hM : M ≤ 6) (kont : Int32 → Int32 → Int32 → Int32 → Int32 → (Nat → Int32) → (Nat → Int32) → Int32 → Int32 → (Nat → StT) → Bool → (Nat → Int64) → Option Bool) : ∀ (d v n B Ln ol c : Nat) (ring : Nat → StT) (st : Bool), v + d = M → Ok n B 0 Ln → n ≤ v → SVK ol c → (st = true ∨ BT (mC pos neg 0) B n 0 bits) → ∃ n' B' Ln' ol' c' ring' st', Ok n' B' 0 Ln' ∧ n' ≤ M ∧ SVK ol' c' ∧ (st' = true ∨ BT (mC pos neg 0) B' n' 0 bits) ∧ ∀ q, d < q → L_L_law_27 N xs L (nI z) kont q (nI v) (nI n) (nI B) (nI 0) (nI Ln) R pos neg (nI ol) (nI c) ring st bits = kont (nI n') (nI B') (nI 0) (nI Ln') R pos neg (nI ol') (nI c') ring' st' bits := by
  intro d
  induction d with
  | zero =>
    intro v n B Ln ol c ring st hd o hn sv hst
    refine ⟨n, B, Ln, ol, c, ring, st, o, by omega, sv, hst, fun q hq => ?_⟩
    obtain ⟨q, rfl⟩ : ∃ q', q = q' + 1 := ⟨q - 1, by omega⟩
    rw [L_L_law_27, inb_f (by omega) (by decide), eM, if_nle (by omega) (by omega), if_pos (by omega)]
  | succ d ih =>
    intro v n B Ln ol c ring st hd o hn sv hst
    obtain ⟨w, hw, ew⟩ := cell_N N xs hL (show 1 + v < 2 ^ 31 by omega)
    obtain ⟨r, n1, B1, L1, ring1, ol1, c1, st1, e1, o1, hn1, sv1, hst1, hJ⟩ := adds_N (R := R) (pos := pos) (neg := neg) (ring := ring) hN o (by omega) sv bits st hst (!decide ((nI w - nI w / 5 * 5) ≤ (2 : Int32)))
    obtain ⟨n', B', Ln', ol', c', ring', st', a1, a2, a3, a4, a5⟩ := ih (v + 1) n1 B1 L1 ol1 c1 ring1 st1 (by omega) o1 (by omega) sv1 hst1
    refine ⟨n', B', Ln', ol', c', ring', st', a1, a2, a3, a4, fun q hq => ?_⟩
    obtain ⟨q, rfl⟩ : ∃ q', q = q' + 1 := ⟨q - 1, by omega⟩
    rw [L_L_law_27, inb_f (by omega) (by decide), eM, if_nle (by omega) (by omega), if_neg (by omega)]
    refine ob1_e (val0 N _ _ _ _ _) ?_
    rw [show (1 : Int32) + nI v = nI (1 + v) from nI_add 1 v]
    refine ob1_e ew ?_
    refine ob8_e e1 ?_
    refine (hJ _).trans ?_
    rw [nI_1]
    exact a5 q (by omega)
theorem J218 {N n B C : Nat} {pos neg : Nat → Int32} (x y : Int32) (hN : 2000 ≤ N) (o : Ok n B (C + 1) 0) (bits : Nat → Int64) (hT : BT (mC (upd pos C x) (upd neg C y) (C + 1)) B n 0 bits) : ∃ b', BT (mC (upd pos C x) (upd neg C y) (C + 1)) B n 0 b' ∧ ∀ kont, J_L_law_218 N (nI n) (nI B) (if gv (mC pos neg C) B n 0 0 = true then 0 else 1) (nI (C + 1)) (upd pos C x) (upd neg C y) bits false kont = kont false b' := by
  obtain ⟨b1, e1, t1⟩ := winner_N hN o bits false (.inr hT)
  unfold J_L_law_218
  cases eg : gv (mC pos neg C) B n 0 0
  · refine ⟨b1, t1, fun kont => ?_⟩
    have h2 : gv (mC (upd pos C x) (upd neg C y) (C + 1)) B n 0 0 = false := by
      cases eh : gv (mC (upd pos C x) (upd neg C y) (C + 1)) B n 0 0
      · rfl
      · rw [gv_more x y eh] at eg; cases eg
    rw [if_neg (by decide)]
    rw [h2] at e1
    refine ob3_e e1 ?_
    exact if_pos rfl
  · exact ⟨bits, hT, fun kont => if_pos rfl⟩
theorem J254 {N n B C ol c : Nat} {R z : Int32} {pos neg : Nat → Int32} {ring : Nat → StT} (hN : 2000 ≤ N) (o : Ok n B C 0) (sv : SVK ol c) (bits : Nat → Int64) (hT : BT (mC pos neg C) B n 0 bits) : ∃ Ln' R' ol' c' ring' b', Ok n B C Ln' ∧ SVK ol' c' ∧ BT (mC pos neg C) B n 0 b' ∧ ∀ kont, J_L_law_254 N (nI n) (nI B) R z (nI C) pos neg (nI 0) ring (nI ol) (nI c) false bits kont = kont (nI Ln') R' (nI ol') (nI c') ring' false b' := by
  unfold J_L_law_254
  by_cases e : (0 : Int32) < ((z / 16) - (z / 16) / 3 * 3)
  · exact ⟨0, R, ol, c, ring, bits, o, sv, hT, fun kont => if_pos e⟩
  · obtain ⟨Ln', R', ring', ol', c', b', e1, h1, h2, h3⟩ := learns_ok (R := R) (ring := ring) hN o sv bits false (.inr hT)
    refine ⟨Ln', R', ol', c', ring', b', h1, h2, h3, fun kont => ?_⟩
    rw [if_neg e]
    exact ob7_e e1 rfl
theorem J293 {N n B C Ln ol c z : Nat} {R : Int32} {pos neg : Nat → Int32} {ring : Nat → StT} (hN : 2000 ≤ N) (hz : z < 2 ^ 31) (o : Ok n B (C + 1) Ln) (sv : SVK ol c) (bits : Nat → Int64) (hT : BT (mC pos neg (C + 1)) B n 0 bits) : ∃ C' Ln' pos' neg' ol' c' ring' b', Ok n B C' Ln' ∧ C' ≤ C + 1 ∧ SVK ol' c' ∧ BT (mC pos' neg' C') B n 0 b' ∧ ∀ kont, J_L_law_293 N (nI n) (nI B) (nI z) (nI C) (nI (C + 1)) pos neg (nI Ln) R (nI ol) (nI c) ring bits false kont = kont (nI C') (nI Ln') pos' neg' (nI ol') (nI c') ring' false b' := by
  have hC := o.2.2.2.2.1
  unfold J_L_law_293
  by_cases e : ((nI z / 48) - (nI z / 48) / 5 * 5) = (0 : Int32)
  · obtain ⟨pos', neg', ring', ol', c', e1, h1, h2⟩ := removes_N (k := z % (C + 1)) (R := R) (pos := pos) (neg := neg) (ring := ring) hN o (Nat.mod_lt _ (by omega)) sv false
    rw [show C + 1 - 1 = C by omega] at e1 h2
    obtain ⟨b', e2, t2⟩ := holds_ok (R := R) (pos := pos') (neg := neg') hN h2 bits true (.inl rfl)
    refine ⟨C, 0, pos', neg', ol', c', ring', b', h2, by omega, h1, t2, fun kont => ?_⟩
    rw [if_pos e, nI_1]
    refine gd_r (decide_eq_true (fun q => absurd (nI_inj (b := 0) (by omega) (by decide) q) (by omega))) ?_
    rw [pk_rem hz (by omega) (by omega)]
    refine ob9_e e1 ?_
    refine ite_p rfl ?_
    refine ob1_e (val3 N (by decide) _ _ _ _) ?_
    refine ite_p rfl ?_
    exact ob2_e e2 rfl
  · exact ⟨C + 1, Ln, pos, neg, ol, c, ring, bits, o, Nat.le_refl _, sv, hT, fun kont => if_neg e⟩
theorem nmv_r {α β : Type} {a : α} {f : α → Option β} {r : Option β} (h : f a = r) : nmv a f = r := h
set_option maxHeartbeats 4000000 in
theorem loopB {N L n B : Nat} (hN : 2000 ≤ N) (xs : Nat → Int32) (hL : L ≤ 260) (hn6 : n ≤ 6) (kont : Int32 → Int32 → Int32 → Int32 → Int32 → (Nat → Int32) → (Nat → Int32) → Int32 → Int32 → (Nat → StT) → Bool → (Nat → Int64) → Option Bool) : ∀ (d k C Ln ol c : Nat) (R : Int32) (pos neg : Nat → Int32) (ring : Nat → StT) (st : Bool) (bits : Nat → Int64), k + d = 14 → Ok n B C Ln → C ≤ k → SVK ol c → (st = true ∨ BT (mC pos neg C) B n 0 bits) → ∃ C' Ln' ol' c' R' pos' neg' ring' st' bits', Ok n B C' Ln' ∧ SVK ol' c' ∧ ∀ q, d < q → L_L_law_129 N xs L (nI n) kont q (nI k) (nI n) (nI B) (nI C) (nI Ln) R pos neg (nI ol) (nI c) ring st bits = kont (nI n) (nI B) (nI C') (nI Ln') R' pos' neg' (nI ol') (nI c') ring' st' bits' := by
  have p9 := pw9 (show n ≤ 9 by omega)
  have p0 := pw_pos n
  intro d
  induction d with
  | zero =>
    intro k C Ln ol c R pos neg ring st bits hd o hC sv hst
    refine ⟨C, Ln, ol, c, R, pos, neg, ring, st, bits, o, sv, fun q hq => ?_⟩
    obtain ⟨q, rfl⟩ : ∃ q', q = q' + 1 := ⟨q - 1, by omega⟩
    rw [L_L_law_129, show (14 : Int32) = nI 14 from rfl, if_nle (by decide) (by omega), if_pos (by omega)]
  | succ d ih =>
    intro k C Ln ol c R pos neg ring st bits hd o hC sv hst
    obtain ⟨z, hz, ez⟩ := cell_N N xs hL (show 7 + k < 2 ^ 31 by omega)
    have hz64 : z / 64 < 2 ^ 31 := Nat.lt_of_le_of_lt (Nat.div_le_self _ _) hz
    have hz4096 : z / 4096 < 2 ^ 31 := Nat.lt_of_le_of_lt (Nat.div_le_self _ _) hz
    have hm1 : z % 2 ^ n < 2 ^ n := Nat.mod_lt _ p0
    have hm3 : z / 4096 % 2 ^ n < 2 ^ n := Nat.mod_lt _ p0
    obtain ⟨x, hx, ex⟩ := and_le (show z % 2 ^ n < 2 ^ 31 by omega) (nI (z / 64 % 2 ^ n))
    obtain ⟨y, hy, ey⟩ := and_le (show z / 4096 % 2 ^ n < 2 ^ 31 by omega) (nI x ^^^ (-1))
    obtain ⟨b1, e1, t1⟩ := winner_N hN o bits st hst
    obtain ⟨ring2, ol2, c2, e2, sv2, o2⟩ := clauses_N (R := R) (pos := pos) (neg := neg) (ring := ring) hN o (show C < 20 by omega) (show x < 2 ^ n by omega) (show y < 2 ^ n by omega) sv false
    obtain ⟨b3, e3, t3⟩ := holds_ok (R := R) (pos := upd pos C (nI x)) (neg := upd neg C (nI y)) hN o2 b1 true (.inl rfl)
    obtain ⟨b4, t4, e4⟩ := J218 (pos := pos) (neg := neg) (nI x) (nI y) hN o2 b3 t3
    obtain ⟨L5, R5, ol5, c5, ring5, b5, o5, sv5, t5, e5⟩ := J254 (R := R) (z := nI z) (ring := ring2) hN o2 sv2 b4 t4
    obtain ⟨b6, e6, t6⟩ := follows_ok (R := R5) (L := nI L5) hN o5 (nI z / 32) b5 false (.inr t5)
    obtain ⟨C7, L7, pos7, neg7, ol7, c7, ring7, b7, o7, hC7, sv7, t7, e7⟩ := J293 (R := R5) (ring := ring5) hN hz o5 sv5 b6 t6
    obtain ⟨C', Ln', ol', c', R', pos', neg', ring', st', bits', a1, a2, a3⟩ := ih (k + 1) C7 L7 ol7 c7 R5 pos7 neg7 ring7 false b7 (by omega) o7 (by omega) sv7 (.inr t7)
    refine ⟨C', Ln', ol', c', R', pos', neg', ring', st', bits', a1, a2, fun q hq => ?_⟩
    obtain ⟨q, rfl⟩ : ∃ q', q = q' + 1 := ⟨q - 1, by omega⟩
    rw [L_L_law_129, show (14 : Int32) = nI 14 from rfl, if_nle (by decide) (by omega), if_neg (by omega)]
    rw [show (7 : Int32) + nI k = nI (7 + k) from nI_add 7 k, shl1 n (by omega)]
    refine ob1_e ez ?_
    have hne : decide (¬ nI (2 ^ n) = 0) = true := decide_eq_true (fun q => absurd (nI_inj (b := 0) (by omega) (by decide) q) (by omega))
    refine gd_r hne ?_
    refine gd_r hne ?_
    rw [show nI z / 64 = nI (z / 64) from pk_div (d := 64) hz (by decide) (by decide), show nI z / 4096 = nI (z / 4096) from pk_div (d := 4096) hz (by decide) (by decide), pk_rem hz p0 (by omega), pk_rem hz64 p0 (by omega), pk_rem hz4096 p0 (by omega), ex]
    show gd (decide (¬ nI (2 ^ n) = 0)) (nmv (nI (z / 4096 % 2 ^ n) &&& (nI x ^^^ (-1))) _) = _
    refine gd_r hne ?_
    rw [ey]
    refine nmv_r ?_
    refine ob1_e (val2 N _ _ _ _ _) ?_
    refine ob3_e e1 ?_
    refine ob9_e e2 ?_
    refine ite_p rfl ?_
    refine ob2_e e3 ?_
    refine (e4 _).trans ?_
    refine ob1_e (val3 N (by decide) _ _ _ _) ?_
    refine ite_p rfl ?_
    refine (e5 _).trans ?_
    refine ob2_e e6 ?_
    refine (e7 _).trans ?_
    rw [nI_1]
    exact a3 q (by omega)
