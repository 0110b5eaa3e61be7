/-! THE PURE SIDE: digest, the text's bytes -/
theorem reqC_ok {N C k : Nat} (hC : C ≤ 20) (hk : k < C) : F_X4_requireClause N (nI k) (nI C) = some () := by
  unfold F_X4_requireClause
  rw [if_neg (nI_pos (by omega)), if_nlt (by omega) (by omega), if_pos hk]
theorem dig1 {N n B C Ln : Nat} {R : Int32} {pos neg s : Nat → Int32} (hN : 2000 ≤ N) (o : Ok n B C Ln) (m : Ms n B C Ln R pos neg s) : ∀ (d k : Nat) (acc : Int64), k + d = 7 → ∃ acc', (∀ kont q, d < q → L_X4_digest_21 N (nI n) (nI B) (nI C) (nI Ln) R kont q acc (nI k) = kont acc') ∧ ∀ kont q, d < q → L_X5_digest_17 N s kont q acc (nI k) = kont acc' := by
  intro d
  induction d with
  | zero =>
    intro k acc hd
    refine ⟨acc, fun kont q hq => ?_, fun kont q hq => ?_⟩
    · obtain ⟨q, rfl⟩ : ∃ q', q = q' + 1 := ⟨q - 1, by omega⟩
      rw [L_X4_digest_21, show (6 : Int32) = nI 6 from rfl, if_nlt (by omega) (by omega), if_pos (by omega)]
    · obtain ⟨q, rfl⟩ : ∃ q', q = q' + 1 := ⟨q - 1, by omega⟩
      rw [L_X5_digest_17, show (7 : Int32) = nI 7 from rfl, if_nle (by omega) (by omega), if_pos (by omega)]
  | succ d ih =>
    intro k acc hd
    obtain ⟨r, e3, e5⟩ := value_c hN o m (show k ≤ 6 by omega)
    obtain ⟨acc', h3, h5⟩ := ih (k + 1) ((31 * acc) + r.toInt64) (by omega)
    refine ⟨acc', fun kont q hq => ?_, fun kont q hq => ?_⟩
    · obtain ⟨q, rfl⟩ : ∃ q', q = q' + 1 := ⟨q - 1, by omega⟩
      rw [L_X4_digest_21, show (6 : Int32) = nI 6 from rfl, if_nlt (by omega) (by omega), if_neg (by omega), e3, nI_1]
      exact h3 kont q (by omega)
    · obtain ⟨q, rfl⟩ : ∃ q', q = q' + 1 := ⟨q - 1, by omega⟩
      rw [L_X5_digest_17, show (7 : Int32) = nI 7 from rfl, if_nle (by omega) (by omega), if_neg (by omega), e5, nI_1]
      exact h5 kont q (by omega)
theorem dig2 {N n B : Nat} {s : Nat → Int32} (h0 : s 0 = nI n) (h1 : s 1 = nI B) (hB : B < 512) (hn : n ≤ 9) : ∀ (d v : Nat) (acc : Int64), v + d = n → ∃ acc', (∀ kont q, d < q → L_X4_digest_48 N (nI n) (nI B) kont q acc (nI v) = kont acc') ∧ ∀ kont q, d < q → L_X5_digest_44 N s kont q acc (nI v) = kont acc' := by
  intro d
  induction d with
  | zero =>
    intro v acc hd
    refine ⟨acc, fun kont q hq => ?_, fun kont q hq => ?_⟩
    · obtain ⟨q, rfl⟩ : ∃ q', q = q' + 1 := ⟨q - 1, by omega⟩
      rw [L_X4_digest_48, if_nle (by omega) (by omega), if_pos (by omega)]
    · obtain ⟨q, rfl⟩ : ∃ q', q = q' + 1 := ⟨q - 1, by omega⟩
      rw [L_X5_digest_44, h0, if_nle (by omega) (by omega), if_pos (by omega)]
  | succ d ih =>
    intro v acc hd
    obtain ⟨acc', h3, h5⟩ := ih (v + 1) ((31 * acc) + (nI (bt B v)).toInt64) (by omega)
    refine ⟨acc', fun kont q hq => ?_, fun kont q hq => ?_⟩
    · obtain ⟨q, rfl⟩ : ∃ q', q = q' + 1 := ⟨q - 1, by omega⟩
      rw [L_X4_digest_48, if_nle (by omega) (by omega), if_neg (by omega), owner_N N hB (by omega), nI_1]
      exact h3 kont q (by omega)
    · obtain ⟨q, rfl⟩ : ∃ q', q = q' + 1 := ⟨q - 1, by omega⟩
      rw [L_X5_digest_44, h0, if_nle (by omega) (by omega), if_neg (by omega), own5_N N h1 hB (by omega), nI_1]
      have h6 := h5 kont q (by omega)
      rcases bt_01 B v with e | e
      · rw [e] at h6 ⊢; exact h6
      · rw [e] at h6 ⊢; exact h6
theorem dig3 {N n B C Ln : Nat} {R : Int32} {pos neg s : Nat → Int32} (hN : 2000 ≤ N) (hC : C ≤ 20) (m : Ms n B C Ln R pos neg s) : ∀ (d i : Nat) (acc : Int64), i + d = C → ∃ acc', (∀ kont q, d < q → L_X4_digest_83 N (nI C) pos neg kont q acc (nI i) = kont acc') ∧ ∀ kont q, 3 * d < q → L_X5_digest_82 N s kont q acc (nI (3 * i)) = kont acc' := by
  intro d
  induction d with
  | zero =>
    intro i acc hd
    refine ⟨acc, fun kont q hq => ?_, fun kont q hq => ?_⟩
    · obtain ⟨q, rfl⟩ : ∃ q', q = q' + 1 := ⟨q - 1, by omega⟩
      rw [L_X4_digest_83, if_nle (by omega) (by omega), if_pos (by omega)]
    · obtain ⟨q, rfl⟩ : ∃ q', q = q' + 1 := ⟨q - 1, by omega⟩
      rw [L_X5_digest_82, m.2.2.1, show (3 : Int32) = nI 3 from rfl, pk_mul, if_nle (by omega) (by omega), if_pos (by omega)]
  | succ d ih =>
    intro i acc hd
    have f := reqC_ok (N := N) hC (show i < C by omega)
    obtain ⟨r0, a0, b0⟩ := clause_q (N := N) (j := 0) hC f m.2.2.2.2.2.1 m.2.2.2.2.2.2 (by omega) (by decide) (by decide)
    obtain ⟨r1, a1, b1⟩ := clause_q (N := N) (j := 1) hC f m.2.2.2.2.2.1 m.2.2.2.2.2.2 (by omega) (by decide) (by decide)
    obtain ⟨r2, a2, b2⟩ := clause_q (N := N) (j := 2) hC f m.2.2.2.2.2.1 m.2.2.2.2.2.2 (by omega) (by decide) (by decide)
    obtain ⟨acc', h3, h5⟩ := ih (i + 1) ((31 * ((31 * ((31 * acc) + r0.toInt64)) + r1.toInt64)) + r2.toInt64) (by omega)
    have st5 : ∀ (kont : Int64 → Option (Int64 × Int32 × (Nat → Bool) × (Nat → Int32))) (q j : Nat) (x : Int64) (r : Int32), j < 3 * C → F_X5_ofClause N (nI (j / 3)) (nI (j % 3)) s = some r → L_X5_digest_82 N s kont (q + 1) x (nI j) = L_X5_digest_82 N s kont q ((31 * x) + r.toInt64) (nI (j + 1)) := by
      intro kont q j x r hj hr
      rw [L_X5_digest_82, m.2.2.1, show (3 : Int32) = nI 3 from rfl, pk_mul, if_nle (by omega) (by omega), if_neg (by omega), pk_rem (by omega) (by decide) (by decide), pk_div (by omega) (by decide) (by decide), hr, nI_1]; rfl
    refine ⟨acc', fun kont q hq => ?_, fun kont q hq => ?_⟩
    · obtain ⟨q, rfl⟩ : ∃ q', q = q' + 1 := ⟨q - 1, by omega⟩
      rw [L_X4_digest_83, if_nle (by omega) (by omega), if_neg (by omega), nI_1]
      have st3 : ∀ (k2 : Int64 → Option (Int64 × (Nat → Int64) × Bool)), L_X4_digest_97 N (nI C) pos neg (nI i) k2 N acc (nI 0) = k2 ((31 * ((31 * ((31 * acc) + r0.toInt64)) + r1.toInt64)) + r2.toInt64) := by
        intro k2
        have gen : ∀ p, p + 4 ≤ N → L_X4_digest_97 N (nI C) pos neg (nI i) k2 (p + 4) acc (nI 0) = k2 ((31 * ((31 * ((31 * acc) + r0.toInt64)) + r1.toInt64)) + r2.toInt64) := by
          intro p _
          rw [L_X4_digest_97, show (2 : Int32) = nI 2 from rfl, if_nlt (by decide) (by decide), if_neg (by decide), a0, nI_1]
          show L_X4_digest_97 N (nI C) pos neg (nI i) k2 (p + 3) ((31 * acc) + r0.toInt64) (nI 1) = _
          rw [L_X4_digest_97, show (2 : Int32) = nI 2 from rfl, if_nlt (by decide) (by decide), if_neg (by decide), a1, nI_1]
          show L_X4_digest_97 N (nI C) pos neg (nI i) k2 (p + 2) ((31 * ((31 * acc) + r0.toInt64)) + r1.toInt64) (nI 2) = _
          rw [L_X4_digest_97, show (2 : Int32) = nI 2 from rfl, if_nlt (by decide) (by decide), if_neg (by decide), a2, nI_1]
          show L_X4_digest_97 N (nI C) pos neg (nI i) k2 (p + 1) ((31 * ((31 * ((31 * acc) + r0.toInt64)) + r1.toInt64)) + r2.toInt64) (nI 3) = _
          rw [L_X4_digest_97, show (2 : Int32) = nI 2 from rfl, if_nlt (by decide) (by decide), if_pos (by decide)]
        have := gen (N - 4) (by omega)
        rwa [show N - 4 + 4 = N by omega] at this
      refine (st3 _).trans ?_
      exact h3 kont q (by omega)
    · obtain ⟨q, rfl⟩ : ∃ q', q = q' + 3 := ⟨q - 3, by omega⟩
      rw [st5 kont (q + 2) (3 * i) acc r0 (by omega) (by rw [show 3 * i / 3 = i by omega, show 3 * i % 3 = 0 by omega]; exact b0), st5 kont (q + 1) (3 * i + 1) _ r1 (by omega) (by rw [show (3 * i + 1) / 3 = i by omega, show (3 * i + 1) % 3 = 1 by omega]; exact b1), st5 kont q (3 * i + 1 + 1) _ r2 (by omega) (by rw [show (3 * i + 1 + 1) / 3 = i by omega, show (3 * i + 1 + 1) % 3 = 2 by omega]; exact b2)]
      exact h5 kont q (by omega)
theorem digest_c {N n B C Ln c t : Nat} {R : Int32} {pos neg s : Nat → Int32} (hN : 2000 ≤ N) (o : Ok n B C Ln) (m : Ms n B C Ln R pos neg s) (bits : Nat → Int64) (st : Bool) (hst : st = true ∨ BT (mC pos neg C) B n 0 bits) (w : Nat → Bool) (fi : Nat → Int32) (th : Int32) : ∃ r b' w' f', F_X4_digest N (nI n) (nI B) (nI C) pos neg (nI Ln) R (nI c) bits st (nI t) = some (r, b', false) ∧ F_X5_digest N s (nI c) th (nI t) w fi = some (r, 0, w', f') ∧ BT (mC pos neg C) B n 0 b' := by
  obtain ⟨x1, a1, b1⟩ := dig1 hN o m 7 0 (118513 + (nI t).toInt64) (by decide)
  obtain ⟨x2, a2, b2⟩ := dig2 (N := N) m.1 m.2.1 (ok_512 o) o.1 n 0 x1 (by omega)
  obtain ⟨x3, a3, b3⟩ := dig3 hN o.2.2.2.2.1 m C 0 x2 (by omega)
  have o1 := o.1
  have o5 := o.2.2.2.2.1
  obtain ⟨r1, b', w', c1, t1, c2⟩ := winner_N hN o m bits st hst w
  have c3 := copies3_N hN o.1 (ok_512 o) o.2.2.1 o.2.2.2.2.2
  have c4 := copies5_N hN m.1 m.2.1 m.2.2.2.1 o.1 (ok_512 o) o.2.2.1 o.2.2.2.2.2
  obtain ⟨r3, b2', w2', f', -, c5, t2, c6⟩ := least_N hN o m b' false (.inr t1) w' fi
  refine ⟨(31 * ((31 * ((31 * ((31 * x3) + r1.toInt64)) + (nI (cp B Ln n)).toInt64)) + r3.toInt64)) + (nI c).toInt64, b2', w2', f', ?_, ?_, t2⟩
  · unfold F_X4_digest
    refine (a1 _ N (by omega)).trans ?_
    refine (a2 _ N (by omega)).trans ?_
    refine (a3 _ N (by omega)).trans ?_
    rw [c1]
    show ob1 (F_X4_copies N (nI n) (nI B) (nI Ln)) (fun r => ob3 (F_X4_lowestLeastProof N (nI n) (nI B) (nI C) pos neg b' false) _) = _
    rw [c3, c5]; rfl
  · unfold F_X5_digest
    refine (b1 _ N (by omega)).trans ?_
    refine (b2 _ N (by omega)).trans ?_
    refine (b3 _ N (by omega)).trans ?_
    rw [c2]
    show ob1 (F_X5_copiesOfAll N s) (fun r => ob3 (F_X5_least N s w' fi) _) = _
    rw [c4, c6]; rfl
def TX (bytes : Nat → Int32) (t : Nat) (text : Nat → Int32) : Prop := t ≤ 100 ∧ ∀ i, i < t → bytes i = text i
theorem nar_ok : ∀ k, k < 128 → vp_nar .byte (nI k).toInt8.toInt32 = nI k := by decide +kernel
theorem append_c {N t : Nat} {bytes text : Nat → Int32} (tx : TX bytes t text) (x th : Int32) (out : Nat → Int64) : ∃ code bytes' t' out' r text', F_L_append N 1 x bytes (nI t) out = some (code, bytes', nI t', out') ∧ F_X5_append N x th text (nI t) = some (r, code, text', nI t') ∧ (code = 0 → out' 0 = r.toInt64) ∧ TX bytes' t' text' := by
  obtain ⟨ht, h⟩ := tx
  have fail : (x < 0 ∨ ¬ x ≤ 127) → F_X5_in N x 0 127 = some false → ∃ code bytes' t' out' r text', F_L_append N 1 x bytes (nI t) out = some (code, bytes', nI t', out') ∧ F_X5_append N x th text (nI t) = some (r, code, text', nI t') ∧ (code = 0 → out' 0 = r.toInt64) ∧ TX bytes' t' text' := by
    intro hy i2
    refine ⟨1, bytes, t, out, 0, text, ?_, ?_, fun q => absurd q (by decide), ht, h⟩
    · unfold F_L_append T_X4_append
      by_cases e : x < 0
      · rw [if_pos e]; rfl
      · rw [if_neg e, if_neg (hy.resolve_left e)]; rfl
    · unfold F_X5_append; rw [i2]; rfl
  rcases neg_or x with hx | ⟨k, hk, rfl⟩
  · exact fail (.inl hx) (in_neg N hx)
  · have i2 := in_N N hk (show 0 < 2 ^ 31 by decide) (show 127 < 2 ^ 31 by decide)
    by_cases e : k ≤ 127
    · rw [decide_eq_true (by omega)] at i2
      have j2 : F_X5_in N (nI k) 0 127 = some true := i2
      by_cases e2 : t < 100
      · refine ⟨0, upd bytes t (nI k), t + 1, vp_updL out 0 (nI (t + 1)).toInt64, nI (t + 1), upd text t (nI k), ?_, ?_, fun _ => updL_s _ _ _, by omega, fun i hi => ?_⟩
        · unfold F_L_append T_X4_append F_X4_append F_X1_put
          rw [if_neg (nI_pos hk), if_neg (nI_pos hk), show (127 : Int32) = nI 127 from rfl, if_nle hk (by decide), if_pos e, if_nle hk (by decide), if_pos e, show (100 : Int32) = nI 100 from rfl, if_nlt (by omega) (by decide), if_pos e2, if_nlt (by omega) (by decide), if_pos e2, write_N N bytes (nI k) (by omega) (by decide), nI_1]; rfl
        · unfold F_X5_append
          rw [j2, nI_1, nI_clamp (by omega), nar_ok k (by omega)]
          show (if nI t = nI 100 then _ else gd (inb (nI t) 100) _) = _
          rw [if_neg (fun q => absurd (nI_inj (by omega) (by decide) q) (by omega)), inb_f (by omega) (by decide)]; rfl
        · by_cases ei : i = t
          · subst ei; rw [pk_us, pk_us]
          · rw [pk_un ei, pk_un ei]; exact h i (by omega)
      · refine ⟨2, bytes, t, out, 0, text, ?_, ?_, fun q => absurd q (by decide), ht, h⟩
        · unfold F_L_append T_X4_append
          rw [if_neg (nI_pos hk), show (127 : Int32) = nI 127 from rfl, if_nle hk (by decide), if_pos e, show (100 : Int32) = nI 100 from rfl, if_nlt (by omega) (by decide), if_neg e2]; rfl
        · unfold F_X5_append
          rw [j2, show t = 100 by omega]; rfl
    · rw [decide_eq_false (by omega)] at i2
      exact fail (.inr (fun q => e ((nI_leI hk (by decide)).mp q))) i2
