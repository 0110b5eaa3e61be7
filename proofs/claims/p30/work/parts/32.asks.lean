/-! ASKING CALLS -/
theorem reqV_N (N : Nat) {n k : Nat} (hn : n ≤ 9) (hk : k < n) : F_X4_requireVariable N (nI k) (nI n) = some () := by
  unfold F_X4_requireVariable; rw [if_neg (nI_pos (by omega)), if_nlt (by omega) (by omega), if_pos hk]
theorem reqC_N (N : Nat) {C k : Nat} (hC : C ≤ 20) (hk : k < C) : F_X4_requireClause N (nI k) (nI C) = some () := by
  unfold F_X4_requireClause; rw [if_neg (nI_pos (by omega)), if_nlt (by omega) (by omega), if_pos hk]
theorem reqP_N (N : Nat) {B k : Nat} (hB : B < 512) (hp : pc B ≤ 3) (hk : k < 2 ^ pc B) : F_X4_requirePlay N (nI k) (nI B) = some () := by
  have := pb8 hp
  unfold F_X4_requirePlay; rw [hasPlay_N N hB hp (by omega), decide_eq_true hk]; rfl
theorem reqH_N (N : Nat) {v h : Nat} (hv : v ≤ 9) (hh : h < 2 ^ v) : F_X4_requireHistory N (nI v) (nI h) = some () := by
  have p1 := pw9 hv
  have h1 : h / 2 ^ v < 2 ^ 31 := Nat.lt_of_le_of_lt (Nat.div_le_self _ _) (by omega)
  unfold F_X4_requireHistory; rw [if_neg (nI_pos (by omega)), shr_N (by omega) (by omega), n0, if_neq h1 (by decide), if_pos (div_pow.mpr hh)]
theorem bits_N {N : Nat} (hN : 10 ≤ N) {B : Nat} (h : B < 512) : F_L_bits N (nI B) = some (nI (pc B)) := by
  have hk : ∀ k, k < 9 → (nI B >>> (nI k &&& 31)) &&& 1 = nI (bt B k) := fun k hk => shr_and (by omega) (by omega)
  have step : ∀ (d n a k : Nat), d + k = 9 → d < n → a + d < 1000 → L_L_bits_4 N (nI B) (fun u => some u) n (nI a) (nI k) = some (nI (a + (cnt B 9 - cnt B k))) := by
    intro d
    induction d with
    | zero =>
      intro n a k hd hn ha
      obtain ⟨n, rfl⟩ : ∃ q, n = q + 1 := ⟨n - 1, by omega⟩
      rw [L_L_bits_4]
      rw [show k = 9 by omega, if_pos (by decide)]
      rw [Nat.sub_self, Nat.add_zero]
    | succ d ih =>
      intro n a k hd hn ha
      obtain ⟨n, rfl⟩ : ∃ q, n = q + 1 := ⟨n - 1, by omega⟩
      rw [L_L_bits_4]
      rw [show (9 : Int32) = nI 9 from rfl, if_nle (by omega) (by omega), if_neg (by omega), hk k (by omega), nI_add, nI_1]
      have := bt_lt B k
      rw [ih n (a + bt B k) (k + 1) (by omega) (by omega) (by omega)]
      have h1 : cnt B (k + 1) = cnt B k + bt B k := rfl
      have h2 := cnt_mono B (show k + 1 ≤ 9 by omega)
      congr 2
      omega
  have := step 9 N 0 0 (by omega) (by omega) (by omega)
  unfold F_L_bits
  rw [show (0 : Int32) = nI 0 from rfl, this]
  show some (nI (0 + (cnt B 9 - 0))) = _
  rw [Nat.zero_add, Nat.sub_zero]; rfl
theorem val0 (N : Nat) (v b c l r : Int32) : F_L_value N 0 v b c l r = some v := rfl
theorem val1 (N : Nat) {B : Nat} (hB : B < 512) (v c l r : Int32) : F_L_value N 1 v (nI B) c l r = some (nI (pc B)) := by
  show ob1 (ob1 (F_J6_bitCount_0f7a4 N (nI B)) (fun r => some r)) (fun r => some r) = _
  rw [bitCount_N N hB]; rfl
theorem val2 (N : Nat) (v b c l r : Int32) : F_L_value N 2 v b c l r = some c := rfl
theorem val3 (N : Nat) {Ln : Nat} (hL : Ln < 512) (v b c r : Int32) : F_L_value N 3 v b c (nI Ln) r = some (nI (pc Ln)) := by
  show ob1 (ob1 (F_J6_bitCount_0f7a4 N (nI Ln)) (fun r => some r)) (fun r => some r) = _
  rw [bitCount_N N hL]; rfl
theorem val4 (N : Nat) (v b c l r : Int32) : F_L_value N 4 v b c l r = some l := rfl
theorem val6 (N : Nat) {B : Nat} (hB : B < 512) (hp : pc B ≤ 3) (v c l r : Int32) : F_L_value N 6 v (nI B) c l r = some (nI (2 ^ pc B)) := by
  show ob1 (ob1 (F_X3_plays N (nI B)) (fun r => some r)) (fun r => some r) = _
  rw [plays3_N N hB hp]; rfl
theorem whose_N (N : Nat) {n B v : Nat} (hn : n ≤ 9) (hB : B < 512) (hv : v < n) : F_L_whose N (nI v) (nI n) (nI B) = some (nI (bt B v)) := by
  unfold F_L_whose F_X4_isBreakers
  rw [reqV_N N hn hv, owner_N N hB (by omega)]
  rcases bt_01 B v with e | e <;> rw [e] <;> rfl
theorem ways_N {N n B C Ln p : Nat} {pos neg : Nat → Int32} (hN : 2000 ≤ N) (o : Ok n B C Ln) (hp : p < 2 ^ pc B) : F_L_ways N (nI p) (nI n) (nI B) (nI C) pos neg = some (nI (wy (mC pos neg C) B n p (2 ^ n))) := by
  have hB := ok_512 o
  have p1 := pb8 o.2.2.1
  unfold F_L_ways F_X4_ways
  rw [reqP_N N hB o.2.2.1 hp, ways3_N hN hB o.1 o.2.2.2.2.1 (by omega)]; rfl
theorem winner_N {N n B C Ln : Nat} {pos neg : Nat → Int32} (hN : 2000 ≤ N) (o : Ok n B C Ln) (bits : Nat → Int64) (st : Bool) (hst : st = true ∨ BT (mC pos neg C) B n 0 bits) : ∃ b', F_X4_winner N (nI n) (nI B) (nI C) pos neg bits st = some (if gv (mC pos neg C) B n 0 0 = true then 0 else 1, b', false) ∧ BT (mC pos neg C) B n 0 b' := by
  obtain ⟨b', e1, t1⟩ := bring_N hN o.1 o.2.1 o.2.2.1 o.2.2.2.2.1 bits st hst
  refine ⟨b', ?_, t1⟩
  unfold F_X4_winner
  rw [e1]
  show ob1 (F_X4_winnerIn N (nI 0) (nI 0) (nI B) b') _ = _
  rw [winnerIn_N N o.2.1 o.1 o.2.2.1 t1 (Nat.zero_le _) (by decide)]; rfl
theorem winnerAt_N {N n B C Ln v h : Nat} {pos neg : Nat → Int32} (hN : 2000 ≤ N) (o : Ok n B C Ln) (bits : Nat → Int64) (st : Bool) (hst : st = true ∨ BT (mC pos neg C) B n 0 bits) (hv : v < n) (hh : h < 2 ^ v) : ∃ b', F_L_winnerAt N (nI v) (nI h) (nI n) (nI B) (nI C) pos neg bits st = some (if gv (mC pos neg C) B (n - v) v h = true then 0 else 1, b', false) ∧ BT (mC pos neg C) B n 0 b' := by
  have hn := o.1
  obtain ⟨b', e1, t1⟩ := bring_N hN o.1 o.2.1 o.2.2.1 o.2.2.2.2.1 bits st hst
  refine ⟨b', ?_, t1⟩
  unfold F_L_winnerAt F_X4_winnerAt
  rw [reqV_N N hn hv, reqH_N N (by omega) hh, e1]
  show ob3 (ob1 (F_X4_winnerIn N (nI v) (nI h) (nI B) b') _) _ = _
  rw [winnerIn_N N o.2.1 o.1 o.2.2.1 t1 (by omega) hh]; rfl
/-- the move that is told -/
def mvr (mf : Nat → Bool) (B n v h : Nat) : Int32 := if gv mf B (n - (v + 1)) (v + 1) h = decide (bt B v = 1) then (if gv mf B (n - (v + 1)) (v + 1) (h + 2 ^ v) = decide (bt B v = 1) then -1 else 1) else 0
theorem moves_N {N n B C Ln v h : Nat} {pos neg : Nat → Int32} (hN : 2000 ≤ N) (o : Ok n B C Ln) (bits : Nat → Int64) (st : Bool) (hst : st = true ∨ BT (mC pos neg C) B n 0 bits) (hv : v < n) (hh : h < 2 ^ v) : ∃ b', F_L_moves N (nI v) (nI h) (nI n) (nI B) (nI C) pos neg bits st = some (mvr (mC pos neg C) B n v h, b', false) ∧ BT (mC pos neg C) B n 0 b' := by
  have hn := o.1
  have hB := ok_512 o
  have p2 := pw_s v
  obtain ⟨b', e1, t1⟩ := bring_N hN o.1 o.2.1 o.2.2.1 o.2.2.2.2.1 bits st hst
  refine ⟨b', ?_, t1⟩
  unfold F_L_moves F_X4_move mvr
  rw [reqV_N N hn hv, reqH_N N (by omega) hh, e1]
  show ob3 (ob1 (F_X3_ownerOf N (nI v) (nI B)) (fun r_6 => ob1 (F_X4_winnerIn N (nI v + 1) (nI h) (nI B) b') (fun r_8 => if r_8 = r_6 then some (0, b', false) else ob1 (F_X4_winnerIn N (nI v + 1) (nI h ||| (nI 1 <<< (nI v &&& 31))) (nI B) b') (fun r_11 => if r_11 = r_6 then some (1, b', false) else some (-1, b', false))))) _ = _
  rw [owner_N N hB (by omega), or_bit hh (by decide) (by omega), nI_1, Nat.one_mul, winnerIn_N N o.2.1 o.1 o.2.2.1 t1 (by omega) (show h < 2 ^ (v + 1) by omega), winnerIn_N N o.2.1 o.1 o.2.2.1 t1 (by omega) (show h + 2 ^ v < 2 ^ (v + 1) by omega)]
  rcases bt_01 B v with e | e <;> rw [e] <;> cases gv (mC pos neg C) B (n - (v + 1)) (v + 1) h <;> cases gv (mC pos neg C) B (n - (v + 1)) (v + 1) (h + 2 ^ v) <;> rfl
theorem beats_N {N n B C Ln S : Nat} {pos neg : Nat → Int32} (hN : 2000 ≤ N) (o : Ok n B C Ln) (bits : Nat → Int64) (st : Bool) (hst : st = true ∨ BT (mC pos neg C) B n 0 bits) (hS : S < 2 ^ 2 ^ pc B) : ∃ b', F_L_beats N (nI S) (nI n) (nI B) (nI C) pos neg bits st = some (bI (bs (mC pos neg C) B n S), b', false) ∧ BT (mC pos neg C) B n 0 b' := by
  have hB := ok_512 o
  have p2 := pb256 o.2.2.1
  have p3 := pw_pos (2 ^ pc B)
  obtain ⟨b', e1, t1⟩ := bring_N hN o.1 o.2.1 o.2.2.1 o.2.2.2.2.1 bits st hst
  refine ⟨b', ?_, t1⟩
  unfold F_L_beats F_X4_beats bs
  rw [if_neg (nI_pos (by omega)), allPlays_N N hB o.2.2.1, e1]
  show ob3 (if nI S ≤ nI (2 ^ 2 ^ pc B - 1) then ob1 (F_X0_has N (nI 0) (nI 0) (nI S) b') _ else none) _ = _
  rw [if_nle (by omega) (by omega), if_pos (by omega), has_B t1 o.1 (Nat.zero_le _) (by decide) (by omega), Nat.sub_zero]; rfl
theorem has0 {N n B C Ln S : Nat} {pos neg : Nat → Int32} {b' : Nat → Int64} (o : Ok n B C Ln) (t1 : BT (mC pos neg C) B n 0 b') (hS : S < 256) : F_X0_has N 0 0 (nI S) b' = some (bs (mC pos neg C) B n S) := by
  have := has_B (N := N) t1 o.1 (Nat.zero_le _) (show 0 < 2 ^ 0 by decide) hS
  rw [Nat.sub_zero] at this
  exact this
/-! least proofs -/
def lpQ (mf : Nat → Bool) (B n S : Nat) (v : Int32) : Prop := (v = -1 ∧ ∀ q, 1 ≤ q → q < S → bs mf B n q = true) ∨ ∃ u, 1 ≤ u ∧ u < S ∧ v = nI u ∧ bs mf B n u = false ∧ ∀ q, 1 ≤ q → q < S → bs mf B n q = false → pc u ≤ pc q
theorem least_lp {N n B C Ln T : Nat} {pos neg : Nat → Int32} {bits : Nat → Int64} (o : Ok n B C Ln) (hT : BT (mC pos neg C) B n 0 bits) (eT : T = 2 ^ 2 ^ pc B) (kont : Int32 → Option (Int32 × (Nat → Int64) × Bool)) : ∀ (d S : Nat) (v : Int32), S + d = T → 1 ≤ S → lpQ (mC pos neg C) B n S v → ∃ r, lpQ (mC pos neg C) B n T r ∧ ∀ q, d < q → L_X4_lowestLeastProof_23 N bits (nI (T - 1)) kont q v (nI S) = kont r := by
  have p2 : T ≤ 256 := eT ▸ pb256 o.2.2.1
  have p3 : 0 < T := eT ▸ pw_pos _
  intro d
  induction d with
  | zero =>
    intro S v hd h1 hv
    refine ⟨v, by rw [← show S = T by omega]; exact hv, fun q hq => ?_⟩
    obtain ⟨q, rfl⟩ : ∃ q', q = q' + 1 := ⟨q - 1, by omega⟩
    rw [L_X4_lowestLeastProof_23, if_nlt (by omega) (by omega), if_pos (by omega)]
  | succ d ih =>
    intro S v hd h1 hv
    have e4 := has0 (N := N) o hT (show S < 256 by omega)
    have k3 : ∀ q, L_X4_lowestLeastProof_23 N bits (nI (T - 1)) kont (q + 1) v (nI S) = (if v = -1 then (if bs (mC pos neg C) B n S = true then L_X4_lowestLeastProof_23 N bits (nI (T - 1)) kont q v (nI (S + 1)) else L_X4_lowestLeastProof_23 N bits (nI (T - 1)) kont q (nI S) (nI (S + 1))) else ob1 (F_J6_bitCount_0f7a4 N (nI S)) (fun r_14 => ob1 (F_J6_bitCount_0f7a4 N v) (fun r_16 => (if r_16 ≤ r_14 then L_X4_lowestLeastProof_23 N bits (nI (T - 1)) kont q v (nI (S + 1)) else (if bs (mC pos neg C) B n S = true then L_X4_lowestLeastProof_23 N bits (nI (T - 1)) kont q v (nI (S + 1)) else L_X4_lowestLeastProof_23 N bits (nI (T - 1)) kont q (nI S) (nI (S + 1))))))) := by
      intro q
      rw [L_X4_lowestLeastProof_23, if_nlt (by omega) (by omega), if_neg (by omega), e4, nI_1]; rfl
    have go : ∀ (v' : Int32), lpQ (mC pos neg C) B n (S + 1) v' → (∀ q, L_X4_lowestLeastProof_23 N bits (nI (T - 1)) kont (q + 1) v (nI S) = L_X4_lowestLeastProof_23 N bits (nI (T - 1)) kont q v' (nI (S + 1))) → ∃ r, lpQ (mC pos neg C) B n T r ∧ ∀ q, d + 1 < q → L_X4_lowestLeastProof_23 N bits (nI (T - 1)) kont q v (nI S) = kont r := by
      intro v' h1 h3
      obtain ⟨r, a1, a2⟩ := ih (S + 1) v' (by omega) (by omega) h1
      refine ⟨r, a1, fun q hq => ?_⟩
      obtain ⟨q, rfl⟩ : ∃ q', q = q' + 1 := ⟨q - 1, by omega⟩
      rw [h3, a2 q (by omega)]
    rcases hv with ⟨rfl, hv⟩ | ⟨u, hu1, hu, rfl, hu2, hv⟩
    · cases e : bs (mC pos neg C) B n S
      · rw [e] at k3
        refine go (nI S) (Or.inr ⟨S, h1, Nat.lt_succ_self S, rfl, e, fun q q1 q2 q3 => ?_⟩) k3
        rcases Nat.lt_or_ge q S with z | z
        · rw [hv q q1 z] at q3; cases q3
        · rw [show q = S by omega]; exact Nat.le_refl _
      · rw [e] at k3
        refine go (-1) (Or.inl ⟨rfl, fun q q1 q2 => ?_⟩) k3
        rcases Nat.lt_or_ge q S with z | z
        · exact hv q q1 z
        · rw [show q = S by omega]; exact e
    · replace k3 := fun q => (k3 q).trans (if_neg (m1_nI (show u < 2 ^ 31 by omega)))
      rw [bitCount_N N (show S < 512 by omega), bitCount_N N (show u < 512 by omega)] at k3
      have b1 : pc u ≤ 9 := cnt_le u 9
      have b2 : pc S ≤ 9 := cnt_le S 9
      have stay : (bs (mC pos neg C) B n S = false → pc u ≤ pc S) → lpQ (mC pos neg C) B n (S + 1) (nI u) := fun w => by
        refine Or.inr ⟨u, hu1, by omega, rfl, hu2, fun q q1 q2 q3 => ?_⟩
        rcases Nat.lt_or_ge q S with z | z
        · exact hv q q1 z q3
        · rw [show q = S by omega] at q3 ⊢; exact w q3
      by_cases e2 : nI (pc u) ≤ nI (pc S)
      · exact go (nI u) (stay (fun _ => (nI_leI (by omega) (by omega)).mp e2)) (fun q => (k3 q).trans (if_pos e2))
      · have k3' := fun q => (k3 q).trans (if_neg e2)
        have e3 : pc S < pc u := Nat.lt_of_not_le (fun z => e2 ((nI_leI (by omega) (by omega)).mpr z))
        cases e : bs (mC pos neg C) B n S
        · rw [e] at k3'
          refine go (nI S) (Or.inr ⟨S, h1, Nat.lt_succ_self S, rfl, e, fun q q1 q2 q3 => ?_⟩) k3'
          rcases Nat.lt_or_ge q S with z | z
          · exact Nat.le_trans (Nat.le_of_lt e3) (hv q q1 z q3)
          · rw [show q = S by omega]; exact Nat.le_refl _
        · rw [e] at k3'
          exact go (nI u) (stay (fun w => by rw [e] at w; cases w)) k3'
/-- the least proof that is told -/
def lrQ (mf : Nat → Bool) (B n : Nat) (r : Int32) : Prop := (r = -1 ∧ ∀ S, S < 2 ^ 2 ^ pc B → bs mf B n S = true) ∨ ∃ u, 1 ≤ u ∧ u < 2 ^ 2 ^ pc B ∧ r = nI (pc u) ∧ bs mf B n u = false ∧ ∀ S, S < 2 ^ 2 ^ pc B → bs mf B n S = false → pc u ≤ pc S
theorem least_N {N n B C Ln : Nat} {pos neg : Nat → Int32} (hN : 2000 ≤ N) (o : Ok n B C Ln) (bits : Nat → Int64) (st : Bool) (hst : st = true ∨ BT (mC pos neg C) B n 0 bits) : ∃ r b', F_X4_leastProof N (nI n) (nI B) (nI C) pos neg bits st = some (r, b', false) ∧ BT (mC pos neg C) B n 0 b' ∧ lrQ (mC pos neg C) B n r := by
  have p2 := pb256 o.2.2.1
  have p3 := pw_pos (2 ^ pc B)
  obtain ⟨b', e1, t1⟩ := bring_N hN o.1 o.2.1 o.2.2.1 o.2.2.2.2.1 bits st hst
  obtain ⟨v, hv, a3⟩ := least_lp (N := N) o t1 rfl (fun u => some (u, b', false)) (2 ^ 2 ^ pc B - 1) 1 (-1) (by omega) (Nat.le_refl 1) (Or.inl ⟨rfl, fun q _ _ => by omega⟩)
  have e2 : F_X4_lowestLeastProof N (nI n) (nI B) (nI C) pos neg bits st = some (v, b', false) := by
    unfold F_X4_lowestLeastProof
    rw [e1, allPlays_N N (ok_512 o) o.2.2.1]
    exact a3 N (by omega)
  unfold F_X4_leastProof
  rw [e2]
  rcases hv with ⟨rfl, hv⟩ | ⟨u, hu1, hu, rfl, hu2, hv⟩
  · refine ⟨-1, b', rfl, t1, Or.inl ⟨rfl, fun S hS => ?_⟩⟩
    rcases Nat.eq_zero_or_pos S with rfl | z
    · exact bs_zero _ _ _
    · exact hv S z hS
  · refine ⟨nI (pc u), b', ?_, t1, Or.inr ⟨u, hu1, hu, rfl, hu2, fun S hS q => ?_⟩⟩
    · show (if nI u = -1 then _ else ob1 (F_J6_bitCount_0f7a4 N (nI u)) _) = _
      rw [if_neg (m1_nI (by omega)), bitCount_N N (by omega)]; rfl
    · rcases Nat.eq_zero_or_pos S with rfl | z
      · rw [bs_zero] at q; cases q
      · exact hv S z hS q
