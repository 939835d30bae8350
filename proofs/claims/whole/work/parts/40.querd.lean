/-! ===== trial: powers and the common divisor ===== -/
theorem pow_b {a n : Nat} (ha : a ≤ 10) (hn : n ≤ 6) : a ^ n ≤ 1000000 := by
  have h1 : a ^ n ≤ 10 ^ n := Nat.pow_le_pow_left ha n
  have h2 : 10 ^ n ≤ 10 ^ 6 := Nat.pow_le_pow_right (by decide) hn
  omega
theorem tmod_n (a b : Nat) : Int.tmod (a : Int) (b : Int) = ((a % b : Nat) : Int) := rfl
theorem tdiv_n (a b : Nat) : Int.tdiv (a : Int) (b : Int) = ((a / b : Nat) : Int) := rfl
theorem gcd_n (a b : Nat) : Nat.gcd b (a % b) = Nat.gcd a b := by
  rw [Nat.gcd_comm a b, Nat.gcd_rec b a, Nat.gcd_comm]
def aTrial (a x n k : Int) : Int := if (0 ≤ a ∧ a ≤ 10) ∧ (0 ≤ x ∧ x ≤ 10) ∧ (0 ≤ n ∧ n ≤ 6) ∧ (0 ≤ k ∧ k ≤ 1) then
  (if a.toNat * 10 ^ n.toNat + (10 - a.toNat) * (10 - x.toNat) ^ n.toNat = 0 then -4 else
    if k = 0 then ((a.toNat * 10 ^ n.toNat / Nat.gcd (a.toNat * 10 ^ n.toNat) (a.toNat * 10 ^ n.toNat + (10 - a.toNat) * (10 - x.toNat) ^ n.toNat) : Nat) : Int)
    else (((a.toNat * 10 ^ n.toNat + (10 - a.toNat) * (10 - x.toNat) ^ n.toNat) / Nat.gcd (a.toNat * 10 ^ n.toNat) (a.toNat * 10 ^ n.toNat + (10 - a.toNat) * (10 - x.toNat) ^ n.toNat) : Nat) : Int)) else -1
section TRIAL
variable {G : GG} {M : MM} {d : Nat} {Q : Option AV → MM → Prop} {w s : WT}
theorem ok8_power {a n : Nat} (ha : a ≤ 10) (hn : n ≤ 6) (kk : Q (some (vL (a ^ n : Nat))) M) : Ok G mX8_power d 0 0 [vI a, vI n] M Q := by
  refine Ok_of rfl (Nat.le_of_ble_eq_true rfl) rfl ?_
  refine bX8_power_0 _ _ ?_
  refine down (fun i => Wp G mX8_power d 0 0 5 [some (vI a), some (vI n), some (vL (a ^ i : Nat)), none, some (vI (i : Int))] [] M 0 0 Q) (n := n) ?_ ?_ 0 (Nat.zero_le _)
  · exact bX8_power_5 _ _ _ _ ⟨fun _ => kk, fun h => absurd (Int.le_refl _) h⟩
  · intro i hi ih
    have hb := pow_b ha (show i + 1 ≤ 6 by omega)
    have e : ((a ^ i : Nat) : Int) * (a : Int) = ((a ^ (i + 1) : Nat) : Int) := by rw [Nat.pow_succ, Int.natCast_mul]
    refine bX8_power_5 _ _ _ _ ⟨fun h => absurd h (by omega), fun _ => ?_⟩
    rw [e]
    exact ⟨⟨by omega, by omega⟩, ⟨by omega, by omega⟩, ih⟩
theorem ok9_power {a n : Nat} (ha : a ≤ 10) (hn : n ≤ 6) (kk : Q (some (vL (a ^ n : Nat))) M) : Ok G mX9_power d 0 0 [vL a, vI n] M Q := by
  refine Ok_of rfl (Nat.le_of_ble_eq_true rfl) rfl ?_
  refine bX9_power_0 _ _ ?_
  refine down (fun i => Wp G mX9_power d 0 0 5 [some (vL a), none, some (vI n), some (vL (a ^ i : Nat)), none, some (vI (i : Int))] [] M 0 0 Q) (n := n) ?_ ?_ 0 (Nat.zero_le _)
  · exact bX9_power_5 _ _ _ _ ⟨fun _ => kk, fun h => absurd (Int.le_refl _) h⟩
  · intro i hi ih
    have hb := pow_b ha (show i + 1 ≤ 6 by omega)
    have e : ((a ^ i : Nat) : Int) * (a : Int) = ((a ^ (i + 1) : Nat) : Int) := by rw [Nat.pow_succ, Int.natCast_mul]
    refine bX9_power_5 _ _ _ _ ⟨fun h => absurd h (by omega), fun _ => ?_⟩
    rw [e]
    exact ⟨⟨by omega, by omega⟩, ⟨by omega, by omega⟩, ih⟩
theorem ok9_divisor {a b : Nat} (kk : Q (some (vL (Nat.gcd a b : Nat))) M) : Ok G mX9_divisor d 0 0 [vL a, vL b] M Q := by
  refine Ok_of rfl (Nat.le_of_ble_eq_true rfl) rfl ?_
  refine bX9_divisor_0 _ _ ?_
  induction b using Nat.strongRecOn generalizing a with
  | _ b ih =>
    refine bX9_divisor_6 _ _ ⟨fun h => ?_, fun h => ⟨h, ?_⟩⟩
    · have e : b = 0 := by omega
      rw [e, Nat.gcd_zero_right] at kk
      exact kk
    · rw [tmod_n]
      refine ih (a % b) (Nat.mod_lt _ (by omega)) ?_
      rw [gcd_n]
      exact kk
theorem ok8_commonDivisor {a b : Nat} (hd : 1 ≤ d) (hb : b < 2 ^ 60) (hg : 1 ≤ Nat.gcd a b) (kk : Q (some (vL (Nat.gcd a b : Nat))) M) : Ok G mX8_commonDivisor d 0 0 [vL a, vL b] M Q := by
  obtain ⟨d, rfl⟩ : ∃ e, d = e + 1 := ⟨d - 1, by omega⟩
  refine Ok_of rfl (Nat.le_of_ble_eq_true rfl) rfl ?_
  refine bX8_commonDivisor_0 _ _ ?_
  have z : ∀ a c : Nat, Nat.gcd a 0 ≥ 1 → Q (some (vL (Nat.gcd a 0 : Nat))) M → Wp G mX8_commonDivisor (d + 1) 0 0 9 [none, none, none, none, some (vL (a : Int)), none, some (vL ((0 : Nat) : Int)), none, some (vI (c : Int)), none, none] [] M 0 0 Q := by
    intro a c h1 h2
    rw [Nat.gcd_zero_right] at h1 h2
    refine bX8_commonDivisor_9 _ _ _ ⟨fun _ => ?_, fun _ => ⟨fun _ => ?_, fun h => absurd rfl h⟩⟩
    · rw [if_neg (by omega)]; exact h2
    · rw [if_neg (by omega)]; exact h2
  have key : ∀ n a b c : Nat, b < 2 ^ n → c + 2 * n ≤ 199 → Nat.gcd a b ≥ 1 → Q (some (vL (Nat.gcd a b : Nat))) M → Wp G mX8_commonDivisor (d + 1) 0 0 9 [none, none, none, none, some (vL (a : Int)), none, some (vL (b : Int)), none, some (vI (c : Int)), none, none] [] M 0 0 Q := by
    intro n
    induction n with
    | zero =>
      intro a b c hb hc hg kk
      have e : b = 0 := by omega
      subst e
      exact z a c hg kk
    | succ n ih =>
      intro a b c hb hc hg kk
      by_cases h0 : b = 0
      · subst h0
        exact z a c hg kk
      · refine bX8_commonDivisor_9 _ _ _ ⟨fun h => absurd h (by omega), fun _ => ⟨fun h => absurd h (by omega), fun h => ⟨h, ⟨by omega, by omega⟩, ?_⟩⟩⟩
        rw [tmod_n]
        have e1 := gcd_n a b
        rw [← e1] at hg kk
        have hlt := Nat.mod_lt a (show 0 < b by omega)
        generalize a % b = r at *
        by_cases hr : r = 0
        · subst hr
          exact z b (c + 1) hg kk
        · refine bX8_commonDivisor_9 _ _ _ ⟨fun h => absurd h (by omega), fun _ => ⟨fun h => absurd h (by omega), fun h => ⟨h, ⟨by omega, by omega⟩, ?_⟩⟩⟩
          rw [tmod_n]
          have e2 := gcd_n b r
          rw [← e2] at hg kk
          refine ih r (b % r) (c + 2) ?_ (by omega) hg kk
          have hlt2 := Nat.mod_lt b (show 0 < r by omega)
          have hdm := Nat.div_add_mod b r
          have hq : 1 ≤ b / r := Nat.div_pos (by omega) (by omega)
          have hmul : r * 1 ≤ r * (b / r) := Nat.mul_le_mul_left r hq
          rw [Nat.pow_succ] at hb
          omega
  exact key 60 a b 0 hb (by omega) hg kk
theorem trial_b {a x n : Nat} (ha : a ≤ 10) (hx : x ≤ 10) (hn : n ≤ 6) : a * 10 ^ n ≤ 10000000 ∧ (10 - a) * (10 - x) ^ n ≤ 10000000 := by
  have h1 := pow_b (a := 10) (n := n) (by decide) hn
  have h2 := pow_b (a := 10 - x) (n := n) (by omega) hn
  have h3 : a * 10 ^ n ≤ 10 * 1000000 := Nat.mul_le_mul ha h1
  have h4 : (10 - a) * (10 - x) ^ n ≤ 10 * 1000000 := Nat.mul_le_mul (by omega) h2
  omega
theorem ok8_trial {a x n k : Int} (hd : 2 ≤ d) (hS : ShX M) (kk : Q (some (vL (aTrial a x n k))) M) : Ok G mX8_trial d 0 0 [vR 1, vI a, vI x, vI n, vI k] M Q := by
  obtain ⟨d, rfl⟩ : ∃ e, d = e + 1 := ⟨d - 1, by omega⟩
  refine Ok_of rfl (Nat.le_of_ble_eq_true rfl) rfl ?_
  unfold aTrial at kk
  refine bX8_trial_0 _ _ _ _ hS ⟨fun h => by rwa [if_neg (by omega)] at kk, fun h1 => ⟨fun h => by rwa [if_neg (by omega)] at kk, fun h2 => ⟨fun h => by rwa [if_neg (by omega)] at kk, fun h3 => ⟨fun h => ?_, fun h4 => ⟨fun h => by rwa [if_neg (by omega)] at kk, fun h5 => ⟨fun h => by rwa [if_neg (by omega)] at kk, fun h6 => ⟨fun h => by rwa [if_neg (by omega)] at kk, fun h7 => ⟨fun h8 => ?_, fun h => by rwa [if_neg (by omega)] at kk⟩⟩⟩⟩⟩⟩⟩⟩
  · have : 10 < x := by
      by_cases q : 10 < x
      · exact q
      · rw [if_neg q] at h; exact absurd h (by decide)
    rwa [if_neg (by omega)] at kk
  have h4 : ¬ 10 < x := fun q => h4 (if_pos q)
  rw [if_pos (by omega)] at kk
  obtain ⟨a, rfl⟩ := nat_of (show 0 ≤ a by omega)
  obtain ⟨x, rfl⟩ := nat_of (show 0 ≤ x by omega)
  obtain ⟨n, rfl⟩ := nat_of (show 0 ≤ n by omega)
  rw [Int.toNat_natCast, Int.toNat_natCast, Int.toNat_natCast] at kk
  have ea : (10 : Int) - (a : Int) = ((10 - a : Nat) : Int) := by omega
  have ex : (10 : Int) - (x : Int) = ((10 - x : Nat) : Int) := by omega
  obtain ⟨b1, b2⟩ := trial_b (a := a) (x := x) (n := n) (by omega) (by omega) (by omega)
  rw [ea, ex]
  refine ok8_power (a := 10) (by decide) (by omega) ⟨_, rfl, hS, ?_⟩
  have e1 : (a : Int) * ((10 ^ n : Nat) : Int) = ((a * 10 ^ n : Nat) : Int) := (Int.natCast_mul _ _).symm
  rw [e1]
  refine ⟨⟨by omega, by omega⟩, ⟨by omega, by omega⟩, ⟨by omega, by omega⟩, ok8_power (by omega) (by omega) ⟨_, rfl, hS, ?_⟩⟩
  have e2 : ((10 - a : Nat) : Int) * (((10 - x) ^ n : Nat) : Int) = (((10 - a) * (10 - x) ^ n : Nat) : Int) := (Int.natCast_mul _ _).symm
  rw [e2]
  generalize a * 10 ^ n = T at *
  generalize (10 - a) * (10 - x) ^ n = F at *
  have e3 : (T : Int) + (F : Int) = ((T + F : Nat) : Int) := by omega
  rw [e3]
  refine ⟨⟨by omega, by omega⟩, ⟨by omega, by omega⟩, fun hz => ?_, fun hz => ?_⟩
  · have hg : 1 ≤ Nat.gcd T (T + F) := Nat.gcd_pos_of_pos_right _ (by omega)
    refine ok8_commonDivisor (by omega) (by omega) hg ⟨_, rfl, hS, by omega, ?_⟩
    rw [if_neg (by omega)] at kk
    have q1 := Nat.div_le_self T (Nat.gcd T (T + F))
    have q2 := Nat.div_le_self (T + F) (Nat.gcd T (T + F))
    by_cases k0 : k = 0
    · rw [if_pos k0] at kk
      rw [if_pos k0, tdiv_n]
      generalize T / Nat.gcd T (T + F) = z at *
      exact ⟨⟨by omega, by omega⟩, kk⟩
    · rw [if_neg k0] at kk
      rw [if_neg k0, tdiv_n]
      generalize (T + F) / Nat.gcd T (T + F) = z at *
      exact ⟨⟨by omega, by omega⟩, kk⟩
  · rw [if_pos (by omega)] at kk
    exact kk
theorem ok9_trial {a x n k : Int} (hd : 2 ≤ d) (hS : ShM M) (kk : Q (some (vL (aTrial a x n k))) M) : Ok G mX9_trial d 0 0 [vR 96, vI a, vI x, vI n, vI k] M Q := by
  obtain ⟨d, rfl⟩ : ∃ e, d = e + 1 := ⟨d - 1, by omega⟩
  refine Ok_of rfl (Nat.le_of_ble_eq_true rfl) rfl ?_
  unfold aTrial at kk
  refine bX9_trial_0 _ _ _ _ hS (ok_in ⟨_, rfl, hS, fun h => ?_, fun h1 => ok_in ⟨_, rfl, hS, fun h => ?_, fun h2 => ok_in ⟨_, rfl, hS, fun h => ?_, fun h3 => ok_in ⟨_, rfl, hS, fun h4 => ?_, fun h => ?_⟩⟩⟩⟩)
  · have q : ¬ (0 ≤ a ∧ a ≤ 10) := fun q => by rw [if_pos q] at h; exact absurd h (by decide)
    rwa [if_neg (by omega)] at kk
  · have q : ¬ (0 ≤ x ∧ x ≤ 10) := fun q => by rw [if_pos q] at h; exact absurd h (by decide)
    rwa [if_neg (by omega)] at kk
  · have q : ¬ (0 ≤ n ∧ n ≤ 6) := fun q => by rw [if_pos q] at h; exact absurd h (by decide)
    rwa [if_neg (by omega)] at kk
  · have q1 : 0 ≤ a ∧ a ≤ 10 := by
      rcases Classical.em (0 ≤ a ∧ a ≤ 10) with q | q
      · exact q
      · exact absurd (if_neg q) h1
    have q2 : 0 ≤ x ∧ x ≤ 10 := by
      rcases Classical.em (0 ≤ x ∧ x ≤ 10) with q | q
      · exact q
      · exact absurd (if_neg q) h2
    have q3 : 0 ≤ n ∧ n ≤ 6 := by
      rcases Classical.em (0 ≤ n ∧ n ≤ 6) with q | q
      · exact q
      · exact absurd (if_neg q) h3
    have q4 : 0 ≤ k ∧ k ≤ 1 := by
      rcases Classical.em (0 ≤ k ∧ k ≤ 1) with q | q
      · exact q
      · exact absurd (if_neg q) h4
    rw [if_pos ⟨q1, q2, q3, q4⟩] at kk
    obtain ⟨a, rfl⟩ := nat_of q1.1
    obtain ⟨x, rfl⟩ := nat_of q2.1
    obtain ⟨n, rfl⟩ := nat_of q3.1
    clear h1 h2 h3 h4
    rw [Int.toNat_natCast, Int.toNat_natCast, Int.toNat_natCast] at kk
    have ea : (10 : Int) - (a : Int) = ((10 - a : Nat) : Int) := by omega
    have ex : (10 : Int) - (x : Int) = ((10 - x : Nat) : Int) := by omega
    obtain ⟨b1, b2⟩ := trial_b (a := a) (x := x) (n := n) (by omega) (by omega) (by omega)
    rw [ea, ex]
    refine ok9_power (a := 10) (by decide) (by omega) ⟨_, rfl, hS, ?_⟩
    have e1 : (a : Int) * ((10 ^ n : Nat) : Int) = ((a * 10 ^ n : Nat) : Int) := (Int.natCast_mul _ _).symm
    rw [e1]
    refine ⟨⟨by omega, by omega⟩, ⟨by omega, by omega⟩, ⟨by omega, by omega⟩, ok9_power (by omega) (by omega) ⟨_, rfl, hS, ?_⟩⟩
    have e2 : ((10 - a : Nat) : Int) * (((10 - x) ^ n : Nat) : Int) = (((10 - a) * (10 - x) ^ n : Nat) : Int) := (Int.natCast_mul _ _).symm
    rw [e2]
    generalize a * 10 ^ n = T at *
    generalize (10 - a) * (10 - x) ^ n = F at *
    have e3 : (T : Int) + (F : Int) = ((T + F : Nat) : Int) := by omega
    rw [e3]
    refine ⟨⟨by omega, by omega⟩, ⟨by omega, by omega⟩, fun hz => ok9_divisor ⟨_, rfl, hS, fun k0 => ?_, fun k0 => ?_⟩, fun hz => ?_⟩
    · have hg : 1 ≤ Nat.gcd T (T + F) := Nat.gcd_pos_of_pos_right _ (by omega)
      rw [if_neg (by omega), if_neg k0] at kk
      have q2 := Nat.div_le_self (T + F) (Nat.gcd T (T + F))
      rw [tdiv_n]
      refine ⟨by omega, ?_⟩
      generalize (T + F) / Nat.gcd T (T + F) = z at *
      exact ⟨⟨by omega, by omega⟩, kk⟩
    · have hg : 1 ≤ Nat.gcd T (T + F) := Nat.gcd_pos_of_pos_right _ (by omega)
      rw [if_neg (by omega), if_pos k0] at kk
      have q1 := Nat.div_le_self T (Nat.gcd T (T + F))
      rw [tdiv_n]
      refine ⟨by omega, ?_⟩
      generalize T / Nat.gcd T (T + F) = z at *
      exact ⟨⟨by omega, by omega⟩, kk⟩
    · rw [if_pos (by omega)] at kk
      exact kk
  · have q : ¬ (0 ≤ k ∧ k ≤ 1) := fun q => by rw [if_pos q] at h; exact absurd h (by decide)
    rwa [if_neg (by omega)] at kk
end TRIAL
