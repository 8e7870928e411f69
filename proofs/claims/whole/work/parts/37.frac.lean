/-! ===== fractions ===== -/
theorem l63 : ∀ {n : Nat}, n < 2 ^ 60 → n < 2 ^ 63 := fun h => by omega
theorem lN_0 : lN 0 = 0 := by decide
theorem lN_z {b : Nat} (h : b < 2 ^ 60) : lN b = 0 ↔ b = 0 := by
  have := pk_lEQ (a := b) (b := 0) (by omega) (by omega)
  rw [lN_0] at this
  exact this
theorem lc_z {b : Nat} (h : b < 2 ^ 60) : lg_cmp (lN b) 0 = 0 ↔ b = 0 := (lg_cmp_eq _ _).trans (lN_z h)
theorem lN_rem {a b : Nat} (ha : a < 2 ^ 60) (h0 : 0 < b) (hb : b < 2 ^ 60) : lN a - lN a / lN b * lN b = lN (a % b) := pk_lRem (by omega) h0 (by omega)
section Frac
variable {d L : Nat} {M : Mem}
theorem cd_step {a b s : Nat} (ha : a < 2 ^ 60) (h0 : 0 < b) (hb : b < 2 ^ 60) (hs : s < 128) (Q : Option Value → Mem → Prop) : Wn d i_KN_commonDivisor 3 [(0, .long (lN a)), (2, .long (lN b)), (4, .int (nI s))] [] M Q ↔ Wn d i_KN_commonDivisor 3 [(0, .long (lN b)), (2, .long (lN (a % b))), (4, .int (nI (s + 1)))] [] M Q := by
  have h1 : nI s < nI 128 := nI_lt hs (by omega)
  have h1 : nI s < 128 := h1
  rw [H_KN_commonDivisor_3, if_pos h1, if_neg (fun q => by have := (lc_z hb).mp q; omega), if_neg (fun q => by have := (lN_z hb).mp q; omega), lN_rem ha h0 hb, nI_1]
theorem cd_end {a s : Nat} (hs : s < 128) (Q : Option Value → Mem → Prop) : Wn d i_KN_commonDivisor 3 [(0, .long (lN a)), (2, .long (lN 0)), (4, .int (nI s))] [] M Q ↔ Q (some (.long (lN a))) M := by
  have h1 : nI s < nI 128 := nI_lt hs (by omega)
  have h1 : nI s < 128 := h1
  rw [H_KN_commonDivisor_3, if_pos h1, if_pos ((lc_z (by omega)).mpr rfl)]
theorem cd_loop (Q : Option Value → Mem → Prop) : ∀ n a b s, a < 2 ^ 60 → b < 2 ^ 60 → b < 2 ^ n → s + 2 * n < 128 →
    (Wn d i_KN_commonDivisor 3 [(0, .long (lN a)), (2, .long (lN b)), (4, .int (nI s))] [] M Q ↔ Q (some (.long (lN (Nat.gcd b a)))) M) := by
  intro n
  induction n with
  | zero =>
    intro a b s ha hb hn hs
    have : b = 0 := by rw [Nat.pow_zero] at hn; omega
    rw [this, cd_end (by omega), Nat.gcd_zero_left]
  | succ n ih =>
    intro a b s ha hb hn hs
    by_cases b0 : b = 0
    · rw [b0, cd_end (by omega), Nat.gcd_zero_left]
    · have r1 := Nat.mod_lt a (show 0 < b by omega)
      rw [cd_step ha (by omega) hb (by omega), Nat.gcd_rec b a]
      by_cases r0 : a % b = 0
      · rw [r0, cd_end (by omega), Nat.gcd_zero_left]
      · have r2 := Nat.mod_lt b (show 0 < a % b by omega)
        have r3 : b % (a % b) < 2 ^ n := by
          have e := Nat.div_add_mod b (a % b)
          have q1 : 1 ≤ b / (a % b) := (Nat.one_le_div_iff (by omega)).mpr (by omega)
          have q2 : a % b * 1 ≤ a % b * (b / (a % b)) := Nat.mul_le_mul_left _ q1
          rw [Nat.pow_succ] at hn
          omega
        rw [cd_step hb (by omega) (by omega) (by omega), Nat.gcd_rec (a % b) b, ih (a % b) (b % (a % b)) (s + 1 + 1) (by omega) (by omega) r3 (by omega)]
theorem c_cd {a b : Nat} (ha : a < 2 ^ 60) (hb : b < 2 ^ 60) (Q : Int64 → Mem → Prop) : WL d i_KN_commonDivisor [.long (lN a), .long (lN b)] M Q ↔ Q (lN (Nat.gcd b a)) M := by
  rw [E_KN_commonDivisor]
  have := cd_loop (d := d) (M := M) (QL Q) 60 a b 0 ha hb hb (by omega)
  rw [nI_0] at this
  exact this
/-- a fraction in least terms -/
def lea (a b : Nat) (w : Int32) : Int64 := if w = 0 then lN a / lN (Nat.gcd b a) else lN b / lN (Nat.gcd b a)
theorem gcd_b {a b : Nat} (h0 : 0 < b) : 0 < Nat.gcd b a ∧ Nat.gcd b a ≤ b := ⟨Nat.gcd_pos_of_pos_left _ h0, Nat.gcd_le_left _ h0⟩
theorem c_lea {a b : Nat} (ha : a < 2 ^ 60) (hb : b < 2 ^ 60) (h0 : 0 < b) (w : Int32) (Q : Int64 → Mem → Prop) : WL (d + 1) i_KN_leastTerms [.long (lN a), .long (lN b), .int w] M Q ↔ Q (lea a b w) M := by
  obtain ⟨g1, g2⟩ := gcd_b (a := a) h0
  have e : (if lN (Nat.gcd b a) < 1 then (1 : Int64) else lN (Nat.gcd b a)) = lN (Nat.gcd b a) := by
    have : ¬ lN (Nat.gcd b a) < lN 1 := fun q => by have := (pk_lLT (by omega) (by omega)).mp q; omega
    have : ¬ lN (Nat.gcd b a) < 1 := this
    rw [if_neg this]
  have z : ¬ lN (Nat.gcd b a) = 0 := fun q => by have := (lN_z (by omega)).mp q; omega
  rw [E_KN_leastTerms, c_cd ha hb, e, if_neg z, if_neg z]
  unfold lea
  by_cases w0 : w = 0
  · rw [if_pos w0, if_pos w0]
  · rw [if_neg w0, if_neg w0]
theorem m_lea_loop (u v : Int64) (w : Int32) (Q : Option Value → Mem → Prop) : ∀ n a b, b < n → a < 2 ^ 60 → b < 2 ^ 60 → 0 < Nat.gcd b a →
    (Wn d i_MD_least 6 [(0, .long u), (2, .long v), (4, .int w), (5, .long (lN a)), (7, .long (lN b))] [] M Q ↔ Q (some (.long (if w = 0 then u / lN (Nat.gcd b a) else v / lN (Nat.gcd b a)))) M) := by
  intro n
  induction n with
  | zero => intro a b h; exact absurd h (Nat.not_lt_zero b)
  | succ n ih =>
    intro a b h ha hb hg
    rw [H_MD_least_6]
    by_cases b0 : b = 0
    · rw [if_pos ((lc_z hb).mpr b0)]
      rw [b0, Nat.gcd_zero_left] at hg
      have z : ¬ lN a = 0 := fun q => by have := (lN_z ha).mp q; omega
      rw [if_neg z, if_neg z, b0, Nat.gcd_zero_left]
      by_cases w0 : w = 0
      · rw [if_pos w0, if_pos w0]
      · rw [if_neg w0, if_neg w0]
    · have r1 := Nat.mod_lt a (show 0 < b by omega)
      rw [if_neg (fun q => b0 ((lc_z hb).mp q)), if_neg (fun q => b0 ((lN_z hb).mp q)), lN_rem ha (by omega) hb, ih b (a % b) (by omega) hb (by omega) (by rw [← Nat.gcd_rec]; exact hg), ← Nat.gcd_rec]
theorem m_lea {a b : Nat} (ha : a < 2 ^ 60) (hb : b < 2 ^ 60) (h0 : 0 < b) (w : Int32) (Q : Int64 → Mem → Prop) : WL d i_MD_least [.long (lN a), .long (lN b), .int w] M Q ↔ Q (lea a b w) M := by
  rw [E_MD_least]
  exact m_lea_loop (lN a) (lN b) w (QL Q) (b + 1) a b (by omega) ha hb (gcd_b h0).1
theorem c_pow_loop (x e : Nat) (hx : x < 2 ^ 31) (he : e < 2 ^ 30) (Q : Option Value → Mem → Prop) : ∀ n k s, k + n = e →
    (Wn d i_KN_power 5 [(0, .int (nI x)), (1, .int (nI e)), (2, .long (lN s)), (4, .int (nI k))] [] M Q ↔ Q (some (.long (lN (s * x ^ n)))) M) := by
  intro n
  induction n with
  | zero =>
    intro k s hk
    rw [H_KN_power_5, if_neg (nI_nlt (by omega) (by omega)), Nat.pow_zero, Nat.mul_one]
  | succ n ih =>
    intro k s hk
    rw [H_KN_power_5, if_pos (nI_lt (by omega) (by omega)), nI_l hx, lN_mul, nI_1, ih _ _ (by omega), Nat.mul_assoc, Nat.pow_succ, Nat.mul_comm (x ^ n) x]
theorem c_pow {x e : Nat} (hx : x < 2 ^ 31) (he : e < 2 ^ 30) (Q : Int64 → Mem → Prop) : WL d i_KN_power [.int (nI x), .int (nI e)] M Q ↔ Q (lN (x ^ e)) M := by
  rw [E_KN_power]
  have := c_pow_loop (d := d) (M := M) x e hx he (QL Q) e 0 1 (by omega)
  rw [nI_0, Nat.one_mul] at this
  exact this
end Frac
