theorem l_shr {n k : Nat} (hn : n < 2 ^ 64) (hk : k < 64) : jlushr (lN n) (nI k) = lN (n / 2 ^ k) := wb_shr hn hk
theorem l_add (a b : Nat) : lN a + lN b = lN (a + b) := by
  apply wb_inj
  rw [Int64.toBitVec_add, wb_tb, wb_tb, wb_tb, ← BitVec.ofNat_add]
theorem l_sub {a b : Nat} (h : b ≤ a) : lN a - lN b = lN (a - b) := by
  have e := l_add (a - b) b
  rw [Nat.sub_add_cancel h] at e
  rw [← e]
  grind
theorem l_i32 (v : Nat) : Int64.toInt32 (lN v) = nI v := by
  apply Int32.toBitVec_inj.mp
  show (BitVec.ofNat 64 v).signExtend 32 = BitVec.ofNat 32 v
  apply BitVec.eq_of_getLsbD_eq
  intro j hj
  rw [BitVec.getLsbD_signExtend, if_pos (by omega), BitVec.getLsbD_ofNat, BitVec.getLsbD_ofNat]
  simp [hj, show j < 64 by omega]
theorem m55 : rep 85 8 = 6148914691236517205 := by decide +kernel
theorem m33 : rep 51 8 = 3689348814741910323 := by decide +kernel
theorem m0f : rep 15 8 = 1085102592571150095 := by decide +kernel
theorem s8_a {c0 c1 c2 r1 r2 r3 v : Nat} (h0 : v = c0 + 256 * r1) (h1 : r1 = c1 + 256 * r2) (h2 : r2 = c2 + 256 * r3) : v + r1 = (c0 + c1) + 256 * (c1 + c2) + 65536 * (r2 + r3) := by omega
theorem s8_d {a b r : Nat} (ha : a < 256) (hb : b < 256) : (a + 256 * b + 65536 * r) / 65536 = r := by omega
theorem s8_b {c2 c3 c4 r2 r3 r4 r5 : Nat} (h2 : r2 = c2 + 256 * r3) (h3 : r3 = c3 + 256 * r4) (h4 : r4 = c4 + 256 * r5) : r2 + r3 = (c2 + c3) + 256 * (c3 + c4) + 65536 * (r4 + r5) := by omega
theorem s8_e {a b c d r : Nat} (ha : a < 256) (hb : b < 256) (hc : c < 256) (hd : d < 256) : (a + 256 * b + 65536 * (c + 256 * d + 65536 * r)) / 4294967296 = r := by omega
theorem s8 {c0 c1 c2 c3 c4 c5 c6 c7 r1 r2 r3 r4 r5 r6 v : Nat} (b0 : c0 ≤ 8) (b1 : c1 ≤ 8) (b2 : c2 ≤ 8) (b3 : c3 ≤ 8) (b4 : c4 ≤ 8) (b5 : c5 ≤ 8) (b6 : c6 ≤ 8) (b7 : c7 ≤ 8) (h0 : v = c0 + 256 * r1) (h1 : r1 = c1 + 256 * r2) (h2 : r2 = c2 + 256 * r3) (h3 : r3 = c3 + 256 * r4) (h4 : r4 = c4 + 256 * r5) (h5 : r5 = c5 + 256 * r6) (h6 : r6 = c6 + 256 * c7) : (v + v / 256 + (v + v / 256) / 65536 + (v + v / 256 + (v + v / 256) / 65536) / 4294967296) % 128 = c0 + (c1 + (c2 + (c3 + (c4 + (c5 + (c6 + c7)))))) := by
  have k1 : v / 256 = r1 := by clear h1 h2 h3 h4 h5 h6; omega
  rw [k1, s8_a h0 h1 h2, s8_d (by omega) (by omega)]
  have k2 := s8_b h2 h3 h4
  have k3 : r4 + r5 = (c4 + c5) + 256 * (c5 + c6) + 65536 * (r6 + c7) := s8_b h4 h5 h6
  have k4 : (c0 + c1) + 256 * (c1 + c2) + 65536 * (r2 + r3) + (r2 + r3) = (c0 + c1 + c2 + c3) + 256 * (c1 + c2 + c3 + c4) + 65536 * ((c2 + c3 + c4 + c5) + 256 * (c3 + c4 + c5 + c6) + 65536 * ((r4 + r5) + (r6 + c7))) := by
    clear h0 h1 h2 h3 h4 h5 h6 k1
    omega
  rw [k4, s8_e (by omega) (by omega) (by omega) (by omega)]
  clear h0 h1 h2 h3 h4 k1 k2 k4
  omega
theorem x_bitCount {n : Nat} (hn : n < 2 ^ 64) : F_J13_bitCount_95d88 (lN n) = some (nI (pcB 8 n)) := by
  have c1 : n / 2 &&& rep 85 8 ≤ n / 2 := Nat.and_le_left
  have h1 : f1 8 n < 2 ^ 64 := by unfold f1; omega
  have h2 : f2 8 (f1 8 n) ≤ 3689348814741910323 + 3689348814741910323 := by
    unfold f2
    rw [m33]
    have a1 : f1 8 n &&& 3689348814741910323 ≤ 3689348814741910323 := Nat.and_le_right
    have a2 : f1 8 n / 4 &&& 3689348814741910323 ≤ 3689348814741910323 := Nat.and_le_right
    omega
  have h3 : f3 8 (f2 8 (f1 8 n)) ≤ 1085102592571150095 := by
    unfold f3
    rw [m0f]
    exact Nat.and_le_right
  have e3 := f321 7 n
  rw [f321 6, f321 5, f321 4, f321 3, f321 2, f321 1, f321 0, f321_0] at e3
  have ep := pcB_s 7 n
  rw [pcB_s 6, pcB_s 5, pcB_s 4, pcB_s 3, pcB_s 2, pcB_s 1, show pcB 1 (n / 256 / 256 / 256 / 256 / 256 / 256 / 256) = pcB 1 (n / 256 / 256 / 256 / 256 / 256 / 256 / 256 % 256) from congrArg (pcB 1) (by omega)] at ep
  have b0 := (fb (n % 256) (by omega)).2.2.2.2.2
  have b1 := (fb (n / 256 % 256) (by omega)).2.2.2.2.2
  have b2 := (fb (n / 256 / 256 % 256) (by omega)).2.2.2.2.2
  have b3 := (fb (n / 256 / 256 / 256 % 256) (by omega)).2.2.2.2.2
  have b4 := (fb (n / 256 / 256 / 256 / 256 % 256) (by omega)).2.2.2.2.2
  have b5 := (fb (n / 256 / 256 / 256 / 256 / 256 % 256) (by omega)).2.2.2.2.2
  have b6 := (fb (n / 256 / 256 / 256 / 256 / 256 / 256 % 256) (by omega)).2.2.2.2.2
  have b7 := (fb (n / 256 / 256 / 256 / 256 / 256 / 256 / 256 % 256) (by omega)).2.2.2.2.2
  unfold F_J13_bitCount_95d88
  have g1 : lN n - (jlushr (lN n) 1 &&& 6148914691236517205) = lN (f1 8 n) := by
    rw [show jlushr (lN n) 1 = lN (n / 2) from l_shr hn (by decide), show (6148914691236517205 : Int64) = lN 6148914691236517205 from rfl, wb_and (by omega) (by decide), ← m55]
    exact l_sub (by omega)
  have g2 : (lN (f1 8 n) &&& 3689348814741910323) + (jlushr (lN (f1 8 n)) 2 &&& 3689348814741910323) = lN (f2 8 (f1 8 n)) := by
    rw [show jlushr (lN (f1 8 n)) 2 = lN (f1 8 n / 2 ^ 2) from l_shr h1 (by decide), show (3689348814741910323 : Int64) = lN 3689348814741910323 from rfl, wb_and (by omega) (by decide), wb_and (by omega) (by decide), ← m33]
    exact l_add _ _
  have g3 : (lN (f2 8 (f1 8 n)) + jlushr (lN (f2 8 (f1 8 n))) 4) &&& 1085102592571150095 = lN (f3 8 (f2 8 (f1 8 n))) := by
    rw [show jlushr (lN (f2 8 (f1 8 n))) 4 = lN (f2 8 (f1 8 n) / 2 ^ 4) from l_shr (by omega) (by decide), l_add, show (1085102592571150095 : Int64) = lN 1085102592571150095 from rfl, wb_and (by omega) (by decide), ← m0f]
    rfl
  (try simp only [Option.bind_some])
  rw [g1, g2, g3]
  generalize f3 8 (f2 8 (f1 8 n)) = v3 at *
  rw [show jlushr (lN v3) 8 = lN (v3 / 2 ^ 8) from l_shr (by omega) (by decide), l_add]
  rw [show jlushr (lN (v3 + v3 / 2 ^ 8)) 16 = lN ((v3 + v3 / 2 ^ 8) / 2 ^ 16) from l_shr (by omega) (by decide), l_add]
  rw [show jlushr (lN (v3 + v3 / 2 ^ 8 + (v3 + v3 / 2 ^ 8) / 2 ^ 16)) 32 = lN ((v3 + v3 / 2 ^ 8 + (v3 + v3 / 2 ^ 8) / 2 ^ 16) / 2 ^ 32) from l_shr (by omega) (by decide), l_add]
  rw [l_i32, show (127 : Int32) = nI 127 from rfl, q_and, show (127 : Nat) = 2 ^ 7 - 1 from rfl, Nat.and_two_pow_sub_one_eq_mod, ep]
  congr 2
  generalize pcB 1 (n % 256) = c0 at *
  generalize pcB 1 (n / 256 % 256) = c1' at *
  generalize pcB 1 (n / 256 / 256 % 256) = c2 at *
  generalize pcB 1 (n / 256 / 256 / 256 % 256) = c3 at *
  generalize pcB 1 (n / 256 / 256 / 256 / 256 % 256) = c4 at *
  generalize pcB 1 (n / 256 / 256 / 256 / 256 / 256 % 256) = c5 at *
  generalize pcB 1 (n / 256 / 256 / 256 / 256 / 256 / 256 % 256) = c6 at *
  generalize pcB 1 (n / 256 / 256 / 256 / 256 / 256 / 256 / 256 % 256) = c7 at *
  have hs := s8 b0 b1 b2 b3 b4 b5 b6 b7 (v := v3) (by rw [e3]) rfl rfl rfl rfl rfl (show c6 + 256 * (c7 + 256 * 0) = c6 + 256 * c7 from rfl)
  exact hs
theorem x_bits (L : Int64) : F_J13_bitCount_95d88 L = some (nI (sm (fun i => one (bt L i)) 64)) := by
  obtain ⟨n, hn, rfl⟩ := wb_of L
  rw [x_bitCount hn]
  unfold pcB
  congr 2
  apply sm_congr
  intro i hi
  rw [bt_lN hn]
