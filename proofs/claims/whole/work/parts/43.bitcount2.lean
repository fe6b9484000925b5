theorem i2 : (2 : Int32) = nI 2 := rfl
theorem i4 : (4 : Int32) = nI 4 := rfl
theorem i8 : (8 : Int32) = nI 8 := rfl
theorem i16 : (16 : Int32) = nI 16 := rfl
theorem i32 : (32 : Int32) = nI 32 := rfl
theorem i127 : (127 : Int32) = nI (2 ^ 7 - 1) := rfl
theorem lM5 : (6148914691236517205 : Int64) = lN (M5 8) := by decide +kernel
theorem lM3 : (3689348814741910323 : Int64) = lN (M3 8) := by decide +kernel
theorem lMF : (1085102592571150095 : Int64) = lN (MF 8) := by decide +kernel
theorem MF8 : MF 8 < 2 ^ 60 := by decide +kernel
theorem SB8 (S : Nat) : SB 8 S = q8 (S % 256) + 256 * (q8 (S / 256 % 256) + 256 * (q8 (S / 256 / 256 % 256) + 256 * (q8 (S / 256 / 256 / 256 % 256) + 256 * (q8 (S / 256 / 256 / 256 / 256 % 256) + 256 * (q8 (S / 256 / 256 / 256 / 256 / 256 % 256) + 256 * (q8 (S / 256 / 256 / 256 / 256 / 256 / 256 % 256) + 256 * q8 (S / 256 / 256 / 256 / 256 / 256 / 256 / 256 % 256))))))) := by
  simp only [SB, Nat.mul_zero, Nat.add_zero]
theorem pop8 (S : Nat) : pop S = q8 (S % 256) + q8 (S / 256 % 256) + q8 (S / 256 / 256 % 256) + q8 (S / 256 / 256 / 256 % 256) + q8 (S / 256 / 256 / 256 / 256 % 256) + q8 (S / 256 / 256 / 256 / 256 / 256 % 256) + q8 (S / 256 / 256 / 256 / 256 / 256 / 256 % 256) + q8 (S / 256 / 256 / 256 / 256 / 256 / 256 / 256 % 256) := by
  have h : pop S = q8 (S % 256) + (q8 (S / 256 % 256) + (q8 (S / 256 / 256 % 256) + (q8 (S / 256 / 256 / 256 % 256) + (q8 (S / 256 / 256 / 256 / 256 % 256) + (q8 (S / 256 / 256 / 256 / 256 / 256 % 256) + (q8 (S / 256 / 256 / 256 / 256 / 256 / 256 % 256) + (q8 (S / 256 / 256 / 256 / 256 / 256 / 256 / 256 % 256) + fb_ct (fun i => (S / 256 / 256 / 256 / 256 / 256 / 256 / 256 / 256).testBit i) 0))))))) := by
    show fb_ct (fun i => S.testBit i) (8 + (8 + (8 + (8 + (8 + (8 + (8 + (8 + 0)))))))) = _
    rw [ct8, ct8, ct8, ct8, ct8, ct8, ct8, ct8]
  rw [h]
  show _ + (_ + (_ + (_ + (_ + (_ + (_ + (_ + 0))))))) = _
  simp only [Nat.add_assoc, Nat.add_zero]
theorem t_bitCount {f S : Nat} {w : Wd} {K : Int32 → Wd → Prop} (hS : S < 2 ^ 62) (h : K (nI (pop S)) w) : RunI f M_J_bitCount [.long (lN S)] w K := by
  refine r_J_bitCount (fun b1 e1 b2 e2 b3 e3 b4 e4 b5 e5 b6 e6 => ?_)
  have g1 : p1 8 S ≤ S := Nat.sub_le _ _
  have g2 : p2 8 (p1 8 S) ≤ p1 8 S + p1 8 S / 4 := Nat.add_le_add Nat.and_le_left Nat.and_le_left
  have g3 : p3 8 (p2 8 (p1 8 S)) < 2 ^ 60 := Nat.lt_of_le_of_lt Nat.and_le_right MF8
  rw [i1, wb_shr (by omega) (by decide), lM5, fb_andL, lN_sub (Nat.le_trans Nat.and_le_left (by omega)), Nat.pow_one] at e1
  have e1' : b1 = lN (p1 8 S) := e1
  rw [e1', i2, wb_shr (by omega) (by decide), lM3, fb_andL, fb_andL, lN_add] at e2
  have e2' : b2 = lN (p2 8 (p1 8 S)) := e2
  rw [e2', i4, wb_shr (by omega) (by decide), lMF, lN_add, fb_andL] at e3
  have e3' : b3 = lN (p3 8 (p2 8 (p1 8 S))) := e3
  rw [p_all] at e3' g3
  rw [e3', i8, wb_shr (by omega) (by decide), lN_add] at e4
  rw [e4, i16, wb_shr (by omega) (by decide), lN_add] at e5
  rw [e5, i32, wb_shr (by omega) (by decide), lN_add] at e6
  rw [e6, lN_i, i127, fa_mask]
  have hs := sum8 (q8_le (S % 256)) (q8_le (S / 256 % 256)) (q8_le (S / 256 / 256 % 256)) (q8_le (S / 256 / 256 / 256 % 256)) (q8_le (S / 256 / 256 / 256 / 256 % 256)) (q8_le (S / 256 / 256 / 256 / 256 / 256 % 256)) (q8_le (S / 256 / 256 / 256 / 256 / 256 / 256 % 256)) (q8_le (S / 256 / 256 / 256 / 256 / 256 / 256 / 256 % 256)) (SB8 S) rfl rfl
  rw [← pop8] at hs
  have hm : ∀ x : Nat, x % 4294967296 % 128 = x % 128 := fun x => by omega
  rw [hm] at hs
  have hs2 : (SB 8 S + SB 8 S / 2 ^ 8 + (SB 8 S + SB 8 S / 2 ^ 8) / 2 ^ 16 + (SB 8 S + SB 8 S / 2 ^ 8 + (SB 8 S + SB 8 S / 2 ^ 8) / 2 ^ 16) / 2 ^ 32) % 2 ^ 7 = pop S := hs
  rw [hs2]
  exact h
