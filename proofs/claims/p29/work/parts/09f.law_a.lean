-- law
abbrev mL_law : MQD := (cL_law, 27, (some .boolean), 21, 600000)
noncomputable def BL_law_1873 (L : Nat) (xs : Nat → Int32) (rl1873 : Mem → Nat → (Nat → Int32) → (Nat → Int32) → Int32 → Option (Int32)) (σ : Mem) (n : Nat) (A0 : Nat → Int32) (A1 : Nat → Int32) (x13 : Int32) : Option (Int32) :=
  rd (2 : Int32) 24 fun j190 =>
  if (A0 j190) ≤ x13 then
  (bi (FX8_fewest σ (2 : Int32) (0 : Int32)) fun r191 σ192 =>
  if r191 = (-1 : Int32) then
  (bi (FX8_won σ192 (-1 : Int32)) fun r193 σ194 =>
  if r193 = (-1 : Int32) then
  (rd (2 : Int32) 24 fun j195 =>
  bi (FX8_sand σ194 (A0 j195) (0 : Int32) (1 : Int32) (0 : Int32)) fun r196 σ197 =>
  if r196 = (-1 : Int32) then
  (some (1 : Int32))
  else
  (some (0 : Int32)))
  else
  (some (0 : Int32)))
  else
  (some (0 : Int32)))
  else
  (bi (FX8_ofBlock σ x13 (1 : Int32)) fun r198 σ199 =>
  rd x13 6 fun j200 =>
  if r198 = (A1 j200) then
  (nm (x13 + (1 : Int32)) fun x_201 =>
  rl1873 σ199 n A0 A1 x_201)
  else
  (some (0 : Int32)))
set_option maxHeartbeats 4000000 in
set_option maxRecDepth 100000 in
theorem jL_law_1873 {Y : QX} {out : Int32} (hE : ∀ σ2 : Mem, EndQ Y mL_law .ireturn [] (some σ2) [] (fun _ => [.int out])) (rl1873 : Mem → Nat → (Nat → Int32) → (Nat → Int32) → Int32 → Option (Int32)) (hr1873 : ∀ (σ : Mem) (n : Nat) (A0 : Nat → Int32) (A1 : Nat → Int32) (x13 : Int32), rl1873 σ n A0 A1 x13 = some out → JQ Y mL_law (some σ) [] [.inl (24, A0), .inl (6, A1)] n 1873 (fun b => [(1, .ref (xad (qX Y) 0)), (2, .ref (b 0)), (5, .ref (b 1)), (13, .int x13)]) (fun _ => [])) (σ : Mem) (n : Nat) (A0 : Nat → Int32) (A1 : Nat → Int32) (x13 : Int32) (h : BL_law_1873 (qL Y) (qs Y) rl1873 σ n A0 A1 x13 = some out) : JQ Y mL_law (some σ) [] [.inl (24, A0), .inl (6, A1)] n 1873 (fun b => [(1, .ref (xad (qX Y) 0)), (2, .ref (b 0)), (5, .ref (b 1)), (13, .int x13)]) (fun _ => []) := by
  refine q_iload 3 dL_law_1873 rfl (fun _ => rfl) ?_
  refine q_aload_n 1 (fun b => b 0) dL_law_1875 rfl rfl (fun _ => rfl) ?_
  refine q_iconst dL_law_1876 rfl ki_2 ?_
  refine q_iald 0 24 A0 rfl dL_law_1877 rfl h (fun j190 h => ?_)
  refine q_icmp_ge dL_law_1878 rfl rfl h (fun c h => ?_) (fun c h => ?_)
  · refine q_aload_n 0 (fun _ => xad (qX Y) 0) dL_law_1904 rfl rfl (fun _ => rfl) ?_
    refine q_iconst dL_law_1905 rfl ki_2 ?_
    refine q_iconst dL_law_1906 rfl ki_0 ?_
    obtain ⟨r191, σ192, hc, h⟩ := bi_of h
    refine q_callX [.int (2 : Int32), .int (0 : Int32)] [] (coX8_fewest σ (2 : Int32) (0 : Int32) r191 σ192 hc) mv_RL_53 (by decide) rfl rfl (fun _ => rfl) (Nat.le_of_ble_eq_true rfl) dL_law_1907 rfl ?_
    refine q_iconst dL_law_1910 rfl ki_m1 ?_
    refine q_icmp_ne dL_law_1911 rfl rfl h (fun c h => ?_) (fun c h => ?_)
    · refine q_iconst dL_law_1941 rfl ki_0 ?_
      refine q_sub [0, 3] (fun _ => [(1, .ref (xad (qX Y) 0)), (13, .int x13)]) (fun _ => rfl) ?_
      refine q_pick [] [] [] (fun _ => [(1, .ref (xad (qX Y) 0)), (13, .int x13)]) (fun _ => [.int (0 : Int32)]) rfl rfl (by decide) rfl (fun _ => rfl) (fun _ => rfl) ?_
      cases h
      exact hE _ _ _ _ dL_law_1942
    · refine q_aload_n 0 (fun _ => xad (qX Y) 0) dL_law_1914 rfl rfl (fun _ => rfl) ?_
      refine q_iconst dL_law_1915 rfl ki_m1 ?_
      obtain ⟨r193, σ194, hc, h⟩ := bi_of h
      refine q_callX [.int (-1 : Int32)] [] (coX8_won σ192 (-1 : Int32) r193 σ194 hc) mv_RL_64 (by decide) rfl rfl (fun _ => rfl) (Nat.le_of_ble_eq_true rfl) dL_law_1916 rfl ?_
      refine q_iconst dL_law_1919 rfl ki_m1 ?_
      refine q_icmp_ne dL_law_1920 rfl rfl h (fun c h => ?_) (fun c h => ?_)
      · refine q_iconst dL_law_1941 rfl ki_0 ?_
        refine q_sub [0, 3] (fun _ => [(1, .ref (xad (qX Y) 0)), (13, .int x13)]) (fun _ => rfl) ?_
        refine q_pick [] [] [] (fun _ => [(1, .ref (xad (qX Y) 0)), (13, .int x13)]) (fun _ => [.int (0 : Int32)]) rfl rfl (by decide) rfl (fun _ => rfl) (fun _ => rfl) ?_
        cases h
        exact hE _ _ _ _ dL_law_1942
      · refine q_aload_n 0 (fun _ => xad (qX Y) 0) dL_law_1923 rfl rfl (fun _ => rfl) ?_
        refine q_aload_n 1 (fun b => b 0) dL_law_1924 rfl rfl (fun _ => rfl) ?_
        refine q_iconst dL_law_1925 rfl ki_2 ?_
        refine q_iald 0 24 A0 rfl dL_law_1926 rfl h (fun j195 h => ?_)
        refine q_iconst dL_law_1927 rfl ki_0 ?_
        refine q_iconst dL_law_1928 rfl ki_1 ?_
        refine q_iconst dL_law_1929 rfl ki_0 ?_
        obtain ⟨r196, σ197, hc, h⟩ := bi_of h
        refine q_callX [.int (A0 j195), .int (0 : Int32), .int (1 : Int32), .int (0 : Int32)] [] (coX8_sand σ194 (A0 j195) (0 : Int32) (1 : Int32) (0 : Int32) r196 σ197 hc) mv_RL_81 (by decide) rfl rfl (fun _ => rfl) (Nat.le_of_ble_eq_true rfl) dL_law_1930 rfl ?_
        refine q_iconst dL_law_1933 rfl ki_m1 ?_
        refine q_icmp_ne dL_law_1934 rfl rfl h (fun c h => ?_) (fun c h => ?_)
        · refine q_iconst dL_law_1941 rfl ki_0 ?_
          refine q_sub [0, 3] (fun _ => [(1, .ref (xad (qX Y) 0)), (13, .int x13)]) (fun _ => rfl) ?_
          refine q_pick [] [] [] (fun _ => [(1, .ref (xad (qX Y) 0)), (13, .int x13)]) (fun _ => [.int (0 : Int32)]) rfl rfl (by decide) rfl (fun _ => rfl) (fun _ => rfl) ?_
          cases h
          exact hE _ _ _ _ dL_law_1942
        · refine q_iconst dL_law_1937 rfl ki_1 ?_
          refine q_goto dL_law_1938 rfl ?_
          refine q_sub [0, 3] (fun _ => [(1, .ref (xad (qX Y) 0)), (13, .int x13)]) (fun _ => rfl) ?_
          refine q_pick [] [] [] (fun _ => [(1, .ref (xad (qX Y) 0)), (13, .int x13)]) (fun _ => [.int (1 : Int32)]) rfl rfl (by decide) rfl (fun _ => rfl) (fun _ => rfl) ?_
          cases h
          exact hE _ _ _ _ dL_law_1942
  · refine q_aload_n 0 (fun _ => xad (qX Y) 0) dL_law_1881 rfl rfl (fun _ => rfl) ?_
    refine q_iload 3 dL_law_1882 rfl (fun _ => rfl) ?_
    refine q_iconst dL_law_1884 rfl ki_1 ?_
    obtain ⟨r198, σ199, hc, h⟩ := bi_of h
    refine q_callX [.int x13, .int (1 : Int32)] [] (coX8_ofBlock σ x13 (1 : Int32) r198 σ199 hc) mv_RL_84 (by decide) rfl rfl (fun _ => rfl) (Nat.le_of_ble_eq_true rfl) dL_law_1885 rfl ?_
    refine q_aload 2 (fun b => b 1) dL_law_1888 rfl (fun _ => rfl) ?_
    refine q_iload 3 dL_law_1890 rfl (fun _ => rfl) ?_
    refine q_iald 1 6 A1 rfl dL_law_1892 rfl h (fun j200 h => ?_)
    refine q_icmp_eq dL_law_1893 rfl rfl h (fun c h => ?_) (fun c h => ?_)
    · refine q_iinc 3 (fun x_201 => (fun b => [(13, .int x_201), (1, .ref (xad (qX Y) 0)), (2, .ref (b 0)), (5, .ref (b 1))])) dL_law_1898 rfl (fun _ => rfl) ki_1 (show 13 < 27 by decide) (fun _ _ => rfl) h (fun x_201 h => ?_)
      refine q_goto dL_law_1901 rfl ?_
      refine q_sub [1, 2, 3, 0] (fun b => [(1, .ref (xad (qX Y) 0)), (2, .ref (b 0)), (5, .ref (b 1)), (13, .int x_201)]) (fun _ => rfl) ?_
      exact hr1873 σ199 _ A0 A1 x_201 h
    · refine q_iconst dL_law_1896 rfl ki_0 ?_
      refine q_sub [0, 3] (fun _ => [(1, .ref (xad (qX Y) 0)), (13, .int x13)]) (fun _ => rfl) ?_
      refine q_pick [] [] [] (fun _ => [(1, .ref (xad (qX Y) 0)), (13, .int x13)]) (fun _ => [.int (0 : Int32)]) rfl rfl (by decide) rfl (fun _ => rfl) (fun _ => rfl) ?_
      cases h
      exact hE _ _ _ _ dL_law_1897
noncomputable def FL_law_1873 (L : Nat) (xs : Nat → Int32) (fu : Nat) : Mem → Nat → (Nat → Int32) → (Nat → Int32) → Int32 → Option (Int32) :=
  Nat.rec (fun _ _ _ _ _ => none) (fun _ ih => BL_law_1873 L xs ih) fu
theorem lL_law_1873 {Y : QX} {out : Int32} (hE : ∀ σ2 : Mem, EndQ Y mL_law .ireturn [] (some σ2) [] (fun _ => [.int out])) : ∀ (fu : Nat) (σ : Mem) (n : Nat) (A0 : Nat → Int32) (A1 : Nat → Int32) (x13 : Int32), FL_law_1873 (qL Y) (qs Y) fu σ n A0 A1 x13 = some out → JQ Y mL_law (some σ) [] [.inl (24, A0), .inl (6, A1)] n 1873 (fun b => [(1, .ref (xad (qX Y) 0)), (2, .ref (b 0)), (5, .ref (b 1)), (13, .int x13)]) (fun _ => []) := by
  intro fu
  induction fu with
  | zero => intro σ n A0 A1 x13 h; exact nn h
  | succ fu ih => intro σ n A0 A1 x13 h; exact jL_law_1873 hE (FL_law_1873 (qL Y) (qs Y) fu) ih σ n A0 A1 x13 h
noncomputable def FL_law_1817 (L : Nat) (xs : Nat → Int32) (rl1488 : Mem → Nat → (Nat → Int32) → (Nat → Int32) → (Nat → Int32) → (Nat → Int64) → Int32 → Int32 → Option (Int32)) (σ : Mem) (n : Nat) (A0 : Nat → Int32) (A1 : Nat → Int32) (A2 : Nat → Int32) (A3 : Nat → Int64) (x4 : Int32) (x13 : Int32) (x14 : Int32) (x16 : Int32) (x17 : Int32) (x18 : Int32) : Option (Int32) :=
  bi (FX8_sand σ x13 x14 (1 : Int32) (-1 : Int32)) fun r202 σ203 =>
  if r202 = x16 then
  (bi (FX8_sand σ203 x13 x14 (1 : Int32) (0 : Int32)) fun r204 σ205 =>
  if r204 = x17 then
  (bi (FX8_sand σ205 x13 x14 (1 : Int32) (1 : Int32)) fun r206 σ207 =>
  if r206 = x18 then
  (nm (x13 + (1 : Int32)) fun x_208 =>
  rl1488 σ207 n A0 A1 A2 A3 x4 x_208)
  else
  (some (0 : Int32)))
  else
  (some (0 : Int32)))
  else
  (some (0 : Int32))
set_option maxHeartbeats 4000000 in
set_option maxRecDepth 100000 in
theorem jL_law_1817 {Y : QX} {out : Int32} (hE : ∀ σ2 : Mem, EndQ Y mL_law .ireturn [] (some σ2) [] (fun _ => [.int out])) (rl1488 : Mem → Nat → (Nat → Int32) → (Nat → Int32) → (Nat → Int32) → (Nat → Int64) → Int32 → Int32 → Option (Int32)) (hr1488 : ∀ (σ : Mem) (n : Nat) (A0 : Nat → Int32) (A1 : Nat → Int32) (A2 : Nat → Int32) (A3 : Nat → Int64) (x4 : Int32) (x13 : Int32), rl1488 σ n A0 A1 A2 A3 x4 x13 = some out → JQ Y mL_law (some σ) [] [.inl (24, A0), .inl (36, A1), .inl (6, A2), .inr (3, A3)] n 1488 (fun b => [(0, .ref (qb Y)), (1, .ref (xad (qX Y) 0)), (2, .ref (b 0)), (3, .ref (b 1)), (4, .int x4), (5, .ref (b 2)), (6, .ref (b 3)), (13, .int x13)]) (fun _ => [])) (σ : Mem) (n : Nat) (A0 : Nat → Int32) (A1 : Nat → Int32) (A2 : Nat → Int32) (A3 : Nat → Int64) (x4 : Int32) (x13 : Int32) (x14 : Int32) (x16 : Int32) (x17 : Int32) (x18 : Int32) (h : FL_law_1817 (qL Y) (qs Y) rl1488 σ n A0 A1 A2 A3 x4 x13 x14 x16 x17 x18 = some out) : JQ Y mL_law (some σ) [] [.inl (24, A0), .inl (36, A1), .inl (6, A2), .inr (3, A3)] n 1817 (fun b => [(0, .ref (qb Y)), (1, .ref (xad (qX Y) 0)), (2, .ref (b 0)), (3, .ref (b 1)), (4, .int x4), (5, .ref (b 2)), (6, .ref (b 3)), (13, .int x13), (14, .int x14), (16, .int x16), (17, .int x17), (18, .int x18)]) (fun _ => []) := by
  refine q_aload_n 1 (fun _ => xad (qX Y) 0) dL_law_1817 rfl rfl (fun _ => rfl) ?_
  refine q_iload 7 dL_law_1818 rfl (fun _ => rfl) ?_
  refine q_iload 8 dL_law_1820 rfl (fun _ => rfl) ?_
  refine q_iconst dL_law_1822 rfl ki_1 ?_
  refine q_iconst dL_law_1823 rfl ki_m1 ?_
  obtain ⟨r202, σ203, hc, h⟩ := bi_of h
  refine q_callX [.int x13, .int x14, .int (1 : Int32), .int (-1 : Int32)] [] (coX8_sand σ x13 x14 (1 : Int32) (-1 : Int32) r202 σ203 hc) mv_RL_81 (by decide) rfl rfl (fun _ => rfl) (Nat.le_of_ble_eq_true rfl) dL_law_1824 rfl ?_
  refine q_iload 9 dL_law_1827 rfl (fun _ => rfl) ?_
  refine q_icmp_ne dL_law_1829 rfl rfl h (fun c h => ?_) (fun c h => ?_)
  · refine q_iconst dL_law_1862 rfl ki_0 ?_
    refine q_sub [0, 1, 4, 7, 8, 9, 10, 11] (fun _ => [(0, .ref (qb Y)), (1, .ref (xad (qX Y) 0)), (4, .int x4), (13, .int x13), (14, .int x14), (16, .int x16), (17, .int x17), (18, .int x18)]) (fun _ => rfl) ?_
    refine q_pick [] [] [] (fun _ => [(0, .ref (qb Y)), (1, .ref (xad (qX Y) 0)), (4, .int x4), (13, .int x13), (14, .int x14), (16, .int x16), (17, .int x17), (18, .int x18)]) (fun _ => [.int (0 : Int32)]) rfl rfl (by decide) rfl (fun _ => rfl) (fun _ => rfl) ?_
    cases h
    exact hE _ _ _ _ dL_law_1863
  · refine q_aload_n 1 (fun _ => xad (qX Y) 0) dL_law_1832 rfl rfl (fun _ => rfl) ?_
    refine q_iload 7 dL_law_1833 rfl (fun _ => rfl) ?_
    refine q_iload 8 dL_law_1835 rfl (fun _ => rfl) ?_
    refine q_iconst dL_law_1837 rfl ki_1 ?_
    refine q_iconst dL_law_1838 rfl ki_0 ?_
    obtain ⟨r204, σ205, hc, h⟩ := bi_of h
    refine q_callX [.int x13, .int x14, .int (1 : Int32), .int (0 : Int32)] [] (coX8_sand σ203 x13 x14 (1 : Int32) (0 : Int32) r204 σ205 hc) mv_RL_81 (by decide) rfl rfl (fun _ => rfl) (Nat.le_of_ble_eq_true rfl) dL_law_1839 rfl ?_
    refine q_iload 10 dL_law_1842 rfl (fun _ => rfl) ?_
    refine q_icmp_ne dL_law_1844 rfl rfl h (fun c h => ?_) (fun c h => ?_)
    · refine q_iconst dL_law_1862 rfl ki_0 ?_
      refine q_sub [0, 1, 4, 7, 8, 9, 10, 11] (fun _ => [(0, .ref (qb Y)), (1, .ref (xad (qX Y) 0)), (4, .int x4), (13, .int x13), (14, .int x14), (16, .int x16), (17, .int x17), (18, .int x18)]) (fun _ => rfl) ?_
      refine q_pick [] [] [] (fun _ => [(0, .ref (qb Y)), (1, .ref (xad (qX Y) 0)), (4, .int x4), (13, .int x13), (14, .int x14), (16, .int x16), (17, .int x17), (18, .int x18)]) (fun _ => [.int (0 : Int32)]) rfl rfl (by decide) rfl (fun _ => rfl) (fun _ => rfl) ?_
      cases h
      exact hE _ _ _ _ dL_law_1863
    · refine q_aload_n 1 (fun _ => xad (qX Y) 0) dL_law_1847 rfl rfl (fun _ => rfl) ?_
      refine q_iload 7 dL_law_1848 rfl (fun _ => rfl) ?_
      refine q_iload 8 dL_law_1850 rfl (fun _ => rfl) ?_
      refine q_iconst dL_law_1852 rfl ki_1 ?_
      refine q_iconst dL_law_1853 rfl ki_1 ?_
      obtain ⟨r206, σ207, hc, h⟩ := bi_of h
      refine q_callX [.int x13, .int x14, .int (1 : Int32), .int (1 : Int32)] [] (coX8_sand σ205 x13 x14 (1 : Int32) (1 : Int32) r206 σ207 hc) mv_RL_81 (by decide) rfl rfl (fun _ => rfl) (Nat.le_of_ble_eq_true rfl) dL_law_1854 rfl ?_
      refine q_iload 11 dL_law_1857 rfl (fun _ => rfl) ?_
      refine q_icmp_eq dL_law_1859 rfl rfl h (fun c h => ?_) (fun c h => ?_)
      · refine q_iinc 7 (fun x_208 => (fun b => [(13, .int x_208), (0, .ref (qb Y)), (1, .ref (xad (qX Y) 0)), (2, .ref (b 0)), (3, .ref (b 1)), (4, .int x4), (5, .ref (b 2)), (6, .ref (b 3)), (14, .int x14), (16, .int x16), (17, .int x17), (18, .int x18)])) dL_law_1864 rfl (fun _ => rfl) ki_1 (show 13 < 27 by decide) (fun _ _ => rfl) h (fun x_208 h => ?_)
        refine q_goto dL_law_1867 rfl ?_
        refine q_sub [1, 2, 3, 4, 5, 6, 7, 0] (fun b => [(0, .ref (qb Y)), (1, .ref (xad (qX Y) 0)), (2, .ref (b 0)), (3, .ref (b 1)), (4, .int x4), (5, .ref (b 2)), (6, .ref (b 3)), (13, .int x_208)]) (fun _ => rfl) ?_
        exact hr1488 σ207 _ A0 A1 A2 A3 x4 x_208 h
      · refine q_iconst dL_law_1862 rfl ki_0 ?_
        refine q_sub [0, 1, 4, 7, 8, 9, 10, 11] (fun _ => [(0, .ref (qb Y)), (1, .ref (xad (qX Y) 0)), (4, .int x4), (13, .int x13), (14, .int x14), (16, .int x16), (17, .int x17), (18, .int x18)]) (fun _ => rfl) ?_
        refine q_pick [] [] [] (fun _ => [(0, .ref (qb Y)), (1, .ref (xad (qX Y) 0)), (4, .int x4), (13, .int x13), (14, .int x14), (16, .int x16), (17, .int x17), (18, .int x18)]) (fun _ => [.int (0 : Int32)]) rfl rfl (by decide) rfl (fun _ => rfl) (fun _ => rfl) ?_
        cases h
        exact hE _ _ _ _ dL_law_1863
noncomputable def FL_law_1788 (L : Nat) (xs : Nat → Int32) (rl1488 : Mem → Nat → (Nat → Int32) → (Nat → Int32) → (Nat → Int32) → (Nat → Int64) → Int32 → Int32 → Option (Int32)) (rl1533 : Mem → Nat → (Nat → Int32) → (Nat → Int32) → (Nat → Int32) → (Nat → Int64) → Int32 → Int32 → Int32 → Int32 → Int32 → Int32 → Int32 → Int32 → Option (Int32)) (rl1558 : Mem → Nat → (Nat → Int32) → (Nat → Int32) → (Nat → Int32) → (Nat → Int64) → Int32 → Int32 → Int32 → Int32 → Int32 → Int32 → Int32 → Int32 → Int32 → Option (Int32)) (σ : Mem) (n : Nat) (A0 : Nat → Int32) (A1 : Nat → Int32) (A2 : Nat → Int32) (A3 : Nat → Int64) (x4 : Int32) (x13 : Int32) (x14 : Int32) (x15 : Int32) (x16 : Int32) (x19 : Int32) (x20 : Int32) (x22 : Int32) (s0 : Int32) : Option (Int32) :=
  if x22 ≤ (1 : Int32) then
  (nm (x20 + (1 : Int32)) fun x_209 =>
  rl1558 σ n A0 A1 A2 A3 x4 x13 x14 x15 x16 s0 (-9 : Int32) x19 x_209)
  else
  (nm (x20 + (1 : Int32)) fun x_210 =>
  rl1558 σ n A0 A1 A2 A3 x4 x13 x14 x15 x16 s0 x20 x19 x_210)
set_option maxHeartbeats 4000000 in
set_option maxRecDepth 100000 in
theorem jL_law_1788 {Y : QX} {out : Int32} (hE : ∀ σ2 : Mem, EndQ Y mL_law .ireturn [] (some σ2) [] (fun _ => [.int out])) (rl1488 : Mem → Nat → (Nat → Int32) → (Nat → Int32) → (Nat → Int32) → (Nat → Int64) → Int32 → Int32 → Option (Int32)) (hr1488 : ∀ (σ : Mem) (n : Nat) (A0 : Nat → Int32) (A1 : Nat → Int32) (A2 : Nat → Int32) (A3 : Nat → Int64) (x4 : Int32) (x13 : Int32), rl1488 σ n A0 A1 A2 A3 x4 x13 = some out → JQ Y mL_law (some σ) [] [.inl (24, A0), .inl (36, A1), .inl (6, A2), .inr (3, A3)] n 1488 (fun b => [(0, .ref (qb Y)), (1, .ref (xad (qX Y) 0)), (2, .ref (b 0)), (3, .ref (b 1)), (4, .int x4), (5, .ref (b 2)), (6, .ref (b 3)), (13, .int x13)]) (fun _ => [])) (rl1533 : Mem → Nat → (Nat → Int32) → (Nat → Int32) → (Nat → Int32) → (Nat → Int64) → Int32 → Int32 → Int32 → Int32 → Int32 → Int32 → Int32 → Int32 → Option (Int32)) (hr1533 : ∀ (σ : Mem) (n : Nat) (A0 : Nat → Int32) (A1 : Nat → Int32) (A2 : Nat → Int32) (A3 : Nat → Int64) (x4 : Int32) (x13 : Int32) (x14 : Int32) (x15 : Int32) (x16 : Int32) (x17 : Int32) (x18 : Int32) (x19 : Int32), rl1533 σ n A0 A1 A2 A3 x4 x13 x14 x15 x16 x17 x18 x19 = some out → JQ Y mL_law (some σ) [] [.inl (24, A0), .inl (36, A1), .inl (6, A2), .inr (3, A3)] n 1533 (fun b => [(0, .ref (qb Y)), (1, .ref (xad (qX Y) 0)), (2, .ref (b 0)), (3, .ref (b 1)), (4, .int x4), (5, .ref (b 2)), (6, .ref (b 3)), (13, .int x13), (14, .int x14), (15, .int x15), (16, .int x16), (17, .int x17), (18, .int x18), (19, .int x19)]) (fun _ => [])) (rl1558 : Mem → Nat → (Nat → Int32) → (Nat → Int32) → (Nat → Int32) → (Nat → Int64) → Int32 → Int32 → Int32 → Int32 → Int32 → Int32 → Int32 → Int32 → Int32 → Option (Int32)) (hr1558 : ∀ (σ : Mem) (n : Nat) (A0 : Nat → Int32) (A1 : Nat → Int32) (A2 : Nat → Int32) (A3 : Nat → Int64) (x4 : Int32) (x13 : Int32) (x14 : Int32) (x15 : Int32) (x16 : Int32) (x17 : Int32) (x18 : Int32) (x19 : Int32) (x20 : Int32), rl1558 σ n A0 A1 A2 A3 x4 x13 x14 x15 x16 x17 x18 x19 x20 = some out → JQ Y mL_law (some σ) [] [.inl (24, A0), .inl (36, A1), .inl (6, A2), .inr (3, A3)] n 1558 (fun b => [(0, .ref (qb Y)), (1, .ref (xad (qX Y) 0)), (2, .ref (b 0)), (3, .ref (b 1)), (4, .int x4), (5, .ref (b 2)), (6, .ref (b 3)), (13, .int x13), (14, .int x14), (15, .int x15), (16, .int x16), (17, .int x17), (18, .int x18), (19, .int x19), (20, .int x20)]) (fun _ => [])) (σ : Mem) (n : Nat) (A0 : Nat → Int32) (A1 : Nat → Int32) (A2 : Nat → Int32) (A3 : Nat → Int64) (x4 : Int32) (x13 : Int32) (x14 : Int32) (x15 : Int32) (x16 : Int32) (x19 : Int32) (x20 : Int32) (x22 : Int32) (s0 : Int32) (h : FL_law_1788 (qL Y) (qs Y) rl1488 rl1533 rl1558 σ n A0 A1 A2 A3 x4 x13 x14 x15 x16 x19 x20 x22 s0 = some out) : JQ Y mL_law (some σ) [] [.inl (24, A0), .inl (36, A1), .inl (6, A2), .inr (3, A3)] n 1788 (fun b => [(0, .ref (qb Y)), (1, .ref (xad (qX Y) 0)), (2, .ref (b 0)), (3, .ref (b 1)), (4, .int x4), (5, .ref (b 2)), (6, .ref (b 3)), (13, .int x13), (14, .int x14), (15, .int x15), (16, .int x16), (19, .int x19), (20, .int x20), (22, .int x22)]) (fun _ => [.int s0]) := by
  refine q_istoreV (fun b => [(17, .int s0), (0, .ref (qb Y)), (1, .ref (xad (qX Y) 0)), (2, .ref (b 0)), (3, .ref (b 1)), (4, .int x4), (5, .ref (b 2)), (6, .ref (b 3)), (13, .int x13), (14, .int x14), (15, .int x15), (16, .int x16), (19, .int x19), (20, .int x20), (22, .int x22)]) dL_law_1788 rfl (show 17 < 27 by decide) (fun _ => rfl) ?_
  refine q_iload 14 dL_law_1790 rfl (fun _ => rfl) ?_
  refine q_iconst dL_law_1792 rfl ki_1 ?_
  refine q_icmp_le dL_law_1793 rfl rfl h (fun c h => ?_) (fun c h => ?_)
  · refine q_bipush dL_law_1801 rfl kb_m9 ?_
    refine q_istoreV (fun b => [(18, .int (-9 : Int32)), (17, .int s0), (0, .ref (qb Y)), (1, .ref (xad (qX Y) 0)), (2, .ref (b 0)), (3, .ref (b 1)), (4, .int x4), (5, .ref (b 2)), (6, .ref (b 3)), (13, .int x13), (14, .int x14), (15, .int x15), (16, .int x16), (19, .int x19), (20, .int x20), (22, .int x22)]) dL_law_1803 rfl (show 18 < 27 by decide) (fun _ => rfl) ?_
    refine q_iinc 14 (fun x_209 => (fun b => [(20, .int x_209), (18, .int (-9 : Int32)), (17, .int s0), (0, .ref (qb Y)), (1, .ref (xad (qX Y) 0)), (2, .ref (b 0)), (3, .ref (b 1)), (4, .int x4), (5, .ref (b 2)), (6, .ref (b 3)), (13, .int x13), (14, .int x14), (15, .int x15), (16, .int x16), (19, .int x19), (22, .int x22)])) dL_law_1805 rfl (fun _ => rfl) ki_1 (show 20 < 27 by decide) (fun _ _ => rfl) h (fun x_209 h => ?_)
    refine q_goto dL_law_1808 rfl ?_
    refine q_sub [3, 4, 5, 6, 7, 8, 9, 10, 11, 12, 13, 2, 1, 14, 0] (fun b => [(0, .ref (qb Y)), (1, .ref (xad (qX Y) 0)), (2, .ref (b 0)), (3, .ref (b 1)), (4, .int x4), (5, .ref (b 2)), (6, .ref (b 3)), (13, .int x13), (14, .int x14), (15, .int x15), (16, .int x16), (17, .int s0), (18, .int (-9 : Int32)), (19, .int x19), (20, .int x_209)]) (fun _ => rfl) ?_
    exact hr1558 σ _ A0 A1 A2 A3 x4 x13 x14 x15 x16 s0 (-9 : Int32) x19 x_209 h
  · refine q_iload 13 dL_law_1796 rfl (fun _ => rfl) ?_
    refine q_goto dL_law_1798 rfl ?_
    refine q_istoreV (fun b => [(18, .int x20), (17, .int s0), (0, .ref (qb Y)), (1, .ref (xad (qX Y) 0)), (2, .ref (b 0)), (3, .ref (b 1)), (4, .int x4), (5, .ref (b 2)), (6, .ref (b 3)), (13, .int x13), (14, .int x14), (15, .int x15), (16, .int x16), (19, .int x19), (20, .int x20), (22, .int x22)]) dL_law_1803 rfl (show 18 < 27 by decide) (fun _ => rfl) ?_
    refine q_iinc 14 (fun x_210 => (fun b => [(20, .int x_210), (18, .int x20), (17, .int s0), (0, .ref (qb Y)), (1, .ref (xad (qX Y) 0)), (2, .ref (b 0)), (3, .ref (b 1)), (4, .int x4), (5, .ref (b 2)), (6, .ref (b 3)), (13, .int x13), (14, .int x14), (15, .int x15), (16, .int x16), (19, .int x19), (22, .int x22)])) dL_law_1805 rfl (fun _ => rfl) ki_1 (show 20 < 27 by decide) (fun _ _ => rfl) h (fun x_210 h => ?_)
    refine q_goto dL_law_1808 rfl ?_
    refine q_sub [3, 4, 5, 6, 7, 8, 9, 10, 11, 12, 13, 2, 1, 14, 0] (fun b => [(0, .ref (qb Y)), (1, .ref (xad (qX Y) 0)), (2, .ref (b 0)), (3, .ref (b 1)), (4, .int x4), (5, .ref (b 2)), (6, .ref (b 3)), (13, .int x13), (14, .int x14), (15, .int x15), (16, .int x16), (17, .int s0), (18, .int x20), (19, .int x19), (20, .int x_210)]) (fun _ => rfl) ?_
    exact hr1558 σ _ A0 A1 A2 A3 x4 x13 x14 x15 x16 s0 x20 x19 x_210 h
noncomputable def FL_law_1767 (L : Nat) (xs : Nat → Int32) (rl1488 : Mem → Nat → (Nat → Int32) → (Nat → Int32) → (Nat → Int32) → (Nat → Int64) → Int32 → Int32 → Option (Int32)) (rl1533 : Mem → Nat → (Nat → Int32) → (Nat → Int32) → (Nat → Int32) → (Nat → Int64) → Int32 → Int32 → Int32 → Int32 → Int32 → Int32 → Int32 → Int32 → Option (Int32)) (rl1558 : Mem → Nat → (Nat → Int32) → (Nat → Int32) → (Nat → Int32) → (Nat → Int64) → Int32 → Int32 → Int32 → Int32 → Int32 → Int32 → Int32 → Int32 → Int32 → Option (Int32)) (σ : Mem) (n : Nat) (A0 : Nat → Int32) (A1 : Nat → Int32) (A2 : Nat → Int32) (A3 : Nat → Int64) (x4 : Int32) (x13 : Int32) (x14 : Int32) (x15 : Int32) (x16 : Int32) (x17 : Int32) (x18 : Int32) (x19 : Int32) (x20 : Int32) (x22 : Int32) (x23 : Int32) : Option (Int32) :=
  if x23 = 0 then
  (nm (x20 + (1 : Int32)) fun x_211 =>
  rl1558 σ n A0 A1 A2 A3 x4 x13 x14 x15 x16 x17 x18 x19 x_211)
  else
  (if x22 ≤ 0 then
  (FL_law_1788 L xs rl1488 rl1533 rl1558 σ n A0 A1 A2 A3 x4 x13 x14 x15 x22 x19 x20 x22 (-9 : Int32))
  else
  (FL_law_1788 L xs rl1488 rl1533 rl1558 σ n A0 A1 A2 A3 x4 x13 x14 x15 x22 x19 x20 x22 x19))
set_option maxHeartbeats 4000000 in
set_option maxRecDepth 100000 in
theorem jL_law_1767 {Y : QX} {out : Int32} (hE : ∀ σ2 : Mem, EndQ Y mL_law .ireturn [] (some σ2) [] (fun _ => [.int out])) (rl1488 : Mem → Nat → (Nat → Int32) → (Nat → Int32) → (Nat → Int32) → (Nat → Int64) → Int32 → Int32 → Option (Int32)) (hr1488 : ∀ (σ : Mem) (n : Nat) (A0 : Nat → Int32) (A1 : Nat → Int32) (A2 : Nat → Int32) (A3 : Nat → Int64) (x4 : Int32) (x13 : Int32), rl1488 σ n A0 A1 A2 A3 x4 x13 = some out → JQ Y mL_law (some σ) [] [.inl (24, A0), .inl (36, A1), .inl (6, A2), .inr (3, A3)] n 1488 (fun b => [(0, .ref (qb Y)), (1, .ref (xad (qX Y) 0)), (2, .ref (b 0)), (3, .ref (b 1)), (4, .int x4), (5, .ref (b 2)), (6, .ref (b 3)), (13, .int x13)]) (fun _ => [])) (rl1533 : Mem → Nat → (Nat → Int32) → (Nat → Int32) → (Nat → Int32) → (Nat → Int64) → Int32 → Int32 → Int32 → Int32 → Int32 → Int32 → Int32 → Int32 → Option (Int32)) (hr1533 : ∀ (σ : Mem) (n : Nat) (A0 : Nat → Int32) (A1 : Nat → Int32) (A2 : Nat → Int32) (A3 : Nat → Int64) (x4 : Int32) (x13 : Int32) (x14 : Int32) (x15 : Int32) (x16 : Int32) (x17 : Int32) (x18 : Int32) (x19 : Int32), rl1533 σ n A0 A1 A2 A3 x4 x13 x14 x15 x16 x17 x18 x19 = some out → JQ Y mL_law (some σ) [] [.inl (24, A0), .inl (36, A1), .inl (6, A2), .inr (3, A3)] n 1533 (fun b => [(0, .ref (qb Y)), (1, .ref (xad (qX Y) 0)), (2, .ref (b 0)), (3, .ref (b 1)), (4, .int x4), (5, .ref (b 2)), (6, .ref (b 3)), (13, .int x13), (14, .int x14), (15, .int x15), (16, .int x16), (17, .int x17), (18, .int x18), (19, .int x19)]) (fun _ => [])) (rl1558 : Mem → Nat → (Nat → Int32) → (Nat → Int32) → (Nat → Int32) → (Nat → Int64) → Int32 → Int32 → Int32 → Int32 → Int32 → Int32 → Int32 → Int32 → Int32 → Option (Int32)) (hr1558 : ∀ (σ : Mem) (n : Nat) (A0 : Nat → Int32) (A1 : Nat → Int32) (A2 : Nat → Int32) (A3 : Nat → Int64) (x4 : Int32) (x13 : Int32) (x14 : Int32) (x15 : Int32) (x16 : Int32) (x17 : Int32) (x18 : Int32) (x19 : Int32) (x20 : Int32), rl1558 σ n A0 A1 A2 A3 x4 x13 x14 x15 x16 x17 x18 x19 x20 = some out → JQ Y mL_law (some σ) [] [.inl (24, A0), .inl (36, A1), .inl (6, A2), .inr (3, A3)] n 1558 (fun b => [(0, .ref (qb Y)), (1, .ref (xad (qX Y) 0)), (2, .ref (b 0)), (3, .ref (b 1)), (4, .int x4), (5, .ref (b 2)), (6, .ref (b 3)), (13, .int x13), (14, .int x14), (15, .int x15), (16, .int x16), (17, .int x17), (18, .int x18), (19, .int x19), (20, .int x20)]) (fun _ => [])) (σ : Mem) (n : Nat) (A0 : Nat → Int32) (A1 : Nat → Int32) (A2 : Nat → Int32) (A3 : Nat → Int64) (x4 : Int32) (x13 : Int32) (x14 : Int32) (x15 : Int32) (x16 : Int32) (x17 : Int32) (x18 : Int32) (x19 : Int32) (x20 : Int32) (x22 : Int32) (x23 : Int32) (h : FL_law_1767 (qL Y) (qs Y) rl1488 rl1533 rl1558 σ n A0 A1 A2 A3 x4 x13 x14 x15 x16 x17 x18 x19 x20 x22 x23 = some out) : JQ Y mL_law (some σ) [] [.inl (24, A0), .inl (36, A1), .inl (6, A2), .inr (3, A3)] n 1767 (fun b => [(0, .ref (qb Y)), (1, .ref (xad (qX Y) 0)), (2, .ref (b 0)), (3, .ref (b 1)), (4, .int x4), (5, .ref (b 2)), (6, .ref (b 3)), (13, .int x13), (14, .int x14), (15, .int x15), (16, .int x16), (17, .int x17), (18, .int x18), (19, .int x19), (20, .int x20), (22, .int x22), (23, .int x23)]) (fun _ => []) := by
  refine q_iload 16 dL_law_1767 rfl (fun _ => rfl) ?_
  refine q_if_eq dL_law_1769 rfl rfl h (fun c h => ?_) (fun c h => ?_)
  · refine q_iinc 14 (fun x_211 => (fun b => [(20, .int x_211), (0, .ref (qb Y)), (1, .ref (xad (qX Y) 0)), (2, .ref (b 0)), (3, .ref (b 1)), (4, .int x4), (5, .ref (b 2)), (6, .ref (b 3)), (13, .int x13), (14, .int x14), (15, .int x15), (16, .int x16), (17, .int x17), (18, .int x18), (19, .int x19), (22, .int x22), (23, .int x23)])) dL_law_1805 rfl (fun _ => rfl) ki_1 (show 20 < 27 by decide) (fun _ _ => rfl) h (fun x_211 h => ?_)
    refine q_goto dL_law_1808 rfl ?_
    refine q_sub [1, 2, 3, 4, 5, 6, 7, 8, 9, 10, 11, 12, 13, 14, 0] (fun b => [(0, .ref (qb Y)), (1, .ref (xad (qX Y) 0)), (2, .ref (b 0)), (3, .ref (b 1)), (4, .int x4), (5, .ref (b 2)), (6, .ref (b 3)), (13, .int x13), (14, .int x14), (15, .int x15), (16, .int x16), (17, .int x17), (18, .int x18), (19, .int x19), (20, .int x_211)]) (fun _ => rfl) ?_
    exact hr1558 σ _ A0 A1 A2 A3 x4 x13 x14 x15 x16 x17 x18 x19 x_211 h
  · refine q_iload 15 dL_law_1772 rfl (fun _ => rfl) ?_
    refine q_istoreV (fun b => [(16, .int x22), (0, .ref (qb Y)), (1, .ref (xad (qX Y) 0)), (2, .ref (b 0)), (3, .ref (b 1)), (4, .int x4), (5, .ref (b 2)), (6, .ref (b 3)), (13, .int x13), (14, .int x14), (15, .int x15), (17, .int x17), (18, .int x18), (19, .int x19), (20, .int x20), (22, .int x22), (23, .int x23)]) dL_law_1774 rfl (show 16 < 27 by decide) (fun _ => rfl) ?_
    refine q_iload 15 dL_law_1776 rfl (fun _ => rfl) ?_
    refine q_if_le dL_law_1778 rfl rfl h (fun c h => ?_) (fun c h => ?_)
    · refine q_bipush dL_law_1786 rfl kb_m9 ?_
      refine q_sub [1, 2, 3, 4, 5, 6, 7, 8, 9, 10, 0, 13, 14, 15] (fun b => [(0, .ref (qb Y)), (1, .ref (xad (qX Y) 0)), (2, .ref (b 0)), (3, .ref (b 1)), (4, .int x4), (5, .ref (b 2)), (6, .ref (b 3)), (13, .int x13), (14, .int x14), (15, .int x15), (16, .int x22), (19, .int x19), (20, .int x20), (22, .int x22)]) (fun _ => rfl) ?_
      exact jL_law_1788 hE rl1488 hr1488 rl1533 hr1533 rl1558 hr1558 σ _ A0 A1 A2 A3 x4 x13 x14 x15 x22 x19 x20 x22 (-9 : Int32) h
    · refine q_iload 13 dL_law_1781 rfl (fun _ => rfl) ?_
      refine q_goto dL_law_1783 rfl ?_
      refine q_sub [1, 2, 3, 4, 5, 6, 7, 8, 9, 10, 0, 13, 14, 15] (fun b => [(0, .ref (qb Y)), (1, .ref (xad (qX Y) 0)), (2, .ref (b 0)), (3, .ref (b 1)), (4, .int x4), (5, .ref (b 2)), (6, .ref (b 3)), (13, .int x13), (14, .int x14), (15, .int x15), (16, .int x22), (19, .int x19), (20, .int x20), (22, .int x22)]) (fun _ => rfl) ?_
      exact jL_law_1788 hE rl1488 hr1488 rl1533 hr1533 rl1558 hr1558 σ _ A0 A1 A2 A3 x4 x13 x14 x15 x22 x19 x20 x22 x19 h
noncomputable def FL_law_1707 (L : Nat) (xs : Nat → Int32) (rl1488 : Mem → Nat → (Nat → Int32) → (Nat → Int32) → (Nat → Int32) → (Nat → Int64) → Int32 → Int32 → Option (Int32)) (rl1533 : Mem → Nat → (Nat → Int32) → (Nat → Int32) → (Nat → Int32) → (Nat → Int64) → Int32 → Int32 → Int32 → Int32 → Int32 → Int32 → Int32 → Int32 → Option (Int32)) (rl1558 : Mem → Nat → (Nat → Int32) → (Nat → Int32) → (Nat → Int32) → (Nat → Int64) → Int32 → Int32 → Int32 → Int32 → Int32 → Int32 → Int32 → Int32 → Int32 → Option (Int32)) (rl1642 : Mem → Nat → (Nat → Int32) → (Nat → Int32) → (Nat → Int32) → (Nat → Int64) → Int32 → Int32 → Int32 → Int32 → Int32 → Int32 → Int32 → Int32 → Int32 → Int32 → Int32 → Int32 → Int32 → Option (Int32)) (σ : Mem) (n : Nat) (A0 : Nat → Int32) (A1 : Nat → Int32) (A2 : Nat → Int32) (A3 : Nat → Int64) (A4 : Nat → Int32) (A5 : Nat → Int64) (x4 : Int32) (x13 : Int32) (x14 : Int32) (x15 : Int32) (x16 : Int32) (x17 : Int32) (x18 : Int32) (x19 : Int32) (x20 : Int32) (x21 : Int32) (x22 : Int32) (x23 : Int32) (x24 : Int32) (s0 : Int64) (s1 : Int32) : Option (Int32) :=
  stB s1 3 A5 s0 fun f212 =>
  if x23 = 0 then
  (rd x13 6 fun j214 =>
  if (A2 j214) < 0 then
  (nm (x24 + (1 : Int32)) fun x_215 =>
  rl1642 σ n A0 A1 A2 A3 x4 x13 x14 x15 x16 x17 x18 x19 x20 x21 x22 (0 : Int32) x_215)
  else
  (dzI (4 : Int32) <|
  dzI (4 : Int32) <|
  bn (FL_push A0 A1 A4 f212 (x24 / (4 : Int32)) (x24 - x24 / (4 : Int32) * (4 : Int32))) fun o216 =>
  if o216.1 < 0 then
  (nm (x24 + (1 : Int32)) fun x_217 =>
  rl1642 σ n A0 A1 A2 A3 x4 x13 x14 x15 x16 x17 x18 x19 x20 x21 x22 (0 : Int32) x_217)
  else
  (rd x13 6 fun j218 =>
  if (o216.2.1 j218) = ((-20 : Int32) - x14) then
  (nm (x24 + (1 : Int32)) fun x_220 =>
  rl1642 σ n A0 A1 A2 A3 x4 x13 x14 x15 x16 x17 x18 x19 x20 x21 x22 (1 : Int32) x_220)
  else
  (nm (x24 + (1 : Int32)) fun x_219 =>
  rl1642 σ n A0 A1 A2 A3 x4 x13 x14 x15 x16 x17 x18 x19 x20 x21 x22 (0 : Int32) x_219))))
  else
  (nm (x24 + (1 : Int32)) fun x_213 =>
  rl1642 σ n A0 A1 A2 A3 x4 x13 x14 x15 x16 x17 x18 x19 x20 x21 x22 (1 : Int32) x_213)
set_option maxHeartbeats 4000000 in
set_option maxRecDepth 100000 in
theorem jL_law_1707 {Y : QX} {out : Int32} (hE : ∀ σ2 : Mem, EndQ Y mL_law .ireturn [] (some σ2) [] (fun _ => [.int out])) (rl1488 : Mem → Nat → (Nat → Int32) → (Nat → Int32) → (Nat → Int32) → (Nat → Int64) → Int32 → Int32 → Option (Int32)) (hr1488 : ∀ (σ : Mem) (n : Nat) (A0 : Nat → Int32) (A1 : Nat → Int32) (A2 : Nat → Int32) (A3 : Nat → Int64) (x4 : Int32) (x13 : Int32), rl1488 σ n A0 A1 A2 A3 x4 x13 = some out → JQ Y mL_law (some σ) [] [.inl (24, A0), .inl (36, A1), .inl (6, A2), .inr (3, A3)] n 1488 (fun b => [(0, .ref (qb Y)), (1, .ref (xad (qX Y) 0)), (2, .ref (b 0)), (3, .ref (b 1)), (4, .int x4), (5, .ref (b 2)), (6, .ref (b 3)), (13, .int x13)]) (fun _ => [])) (rl1533 : Mem → Nat → (Nat → Int32) → (Nat → Int32) → (Nat → Int32) → (Nat → Int64) → Int32 → Int32 → Int32 → Int32 → Int32 → Int32 → Int32 → Int32 → Option (Int32)) (hr1533 : ∀ (σ : Mem) (n : Nat) (A0 : Nat → Int32) (A1 : Nat → Int32) (A2 : Nat → Int32) (A3 : Nat → Int64) (x4 : Int32) (x13 : Int32) (x14 : Int32) (x15 : Int32) (x16 : Int32) (x17 : Int32) (x18 : Int32) (x19 : Int32), rl1533 σ n A0 A1 A2 A3 x4 x13 x14 x15 x16 x17 x18 x19 = some out → JQ Y mL_law (some σ) [] [.inl (24, A0), .inl (36, A1), .inl (6, A2), .inr (3, A3)] n 1533 (fun b => [(0, .ref (qb Y)), (1, .ref (xad (qX Y) 0)), (2, .ref (b 0)), (3, .ref (b 1)), (4, .int x4), (5, .ref (b 2)), (6, .ref (b 3)), (13, .int x13), (14, .int x14), (15, .int x15), (16, .int x16), (17, .int x17), (18, .int x18), (19, .int x19)]) (fun _ => [])) (rl1558 : Mem → Nat → (Nat → Int32) → (Nat → Int32) → (Nat → Int32) → (Nat → Int64) → Int32 → Int32 → Int32 → Int32 → Int32 → Int32 → Int32 → Int32 → Int32 → Option (Int32)) (hr1558 : ∀ (σ : Mem) (n : Nat) (A0 : Nat → Int32) (A1 : Nat → Int32) (A2 : Nat → Int32) (A3 : Nat → Int64) (x4 : Int32) (x13 : Int32) (x14 : Int32) (x15 : Int32) (x16 : Int32) (x17 : Int32) (x18 : Int32) (x19 : Int32) (x20 : Int32), rl1558 σ n A0 A1 A2 A3 x4 x13 x14 x15 x16 x17 x18 x19 x20 = some out → JQ Y mL_law (some σ) [] [.inl (24, A0), .inl (36, A1), .inl (6, A2), .inr (3, A3)] n 1558 (fun b => [(0, .ref (qb Y)), (1, .ref (xad (qX Y) 0)), (2, .ref (b 0)), (3, .ref (b 1)), (4, .int x4), (5, .ref (b 2)), (6, .ref (b 3)), (13, .int x13), (14, .int x14), (15, .int x15), (16, .int x16), (17, .int x17), (18, .int x18), (19, .int x19), (20, .int x20)]) (fun _ => [])) (rl1642 : Mem → Nat → (Nat → Int32) → (Nat → Int32) → (Nat → Int32) → (Nat → Int64) → Int32 → Int32 → Int32 → Int32 → Int32 → Int32 → Int32 → Int32 → Int32 → Int32 → Int32 → Int32 → Int32 → Option (Int32)) (hr1642 : ∀ (σ : Mem) (n : Nat) (A0 : Nat → Int32) (A1 : Nat → Int32) (A2 : Nat → Int32) (A3 : Nat → Int64) (x4 : Int32) (x13 : Int32) (x14 : Int32) (x15 : Int32) (x16 : Int32) (x17 : Int32) (x18 : Int32) (x19 : Int32) (x20 : Int32) (x21 : Int32) (x22 : Int32) (x23 : Int32) (x24 : Int32), rl1642 σ n A0 A1 A2 A3 x4 x13 x14 x15 x16 x17 x18 x19 x20 x21 x22 x23 x24 = some out → JQ Y mL_law (some σ) [] [.inl (24, A0), .inl (36, A1), .inl (6, A2), .inr (3, A3)] n 1642 (fun b => [(0, .ref (qb Y)), (1, .ref (xad (qX Y) 0)), (2, .ref (b 0)), (3, .ref (b 1)), (4, .int x4), (5, .ref (b 2)), (6, .ref (b 3)), (13, .int x13), (14, .int x14), (15, .int x15), (16, .int x16), (17, .int x17), (18, .int x18), (19, .int x19), (20, .int x20), (21, .int x21), (22, .int x22), (23, .int x23), (24, .int x24)]) (fun _ => [])) (σ : Mem) (n : Nat) (A0 : Nat → Int32) (A1 : Nat → Int32) (A2 : Nat → Int32) (A3 : Nat → Int64) (A4 : Nat → Int32) (A5 : Nat → Int64) (x4 : Int32) (x13 : Int32) (x14 : Int32) (x15 : Int32) (x16 : Int32) (x17 : Int32) (x18 : Int32) (x19 : Int32) (x20 : Int32) (x21 : Int32) (x22 : Int32) (x23 : Int32) (x24 : Int32) (s0 : Int64) (s1 : Int32) (h : FL_law_1707 (qL Y) (qs Y) rl1488 rl1533 rl1558 rl1642 σ n A0 A1 A2 A3 A4 A5 x4 x13 x14 x15 x16 x17 x18 x19 x20 x21 x22 x23 x24 s0 s1 = some out) : JQ Y mL_law (some σ) [] [.inl (24, A0), .inl (36, A1), .inl (6, A2), .inr (3, A3), .inl (6, A4), .inr (3, A5)] n 1707 (fun b => [(0, .ref (qb Y)), (1, .ref (xad (qX Y) 0)), (2, .ref (b 0)), (3, .ref (b 1)), (4, .int x4), (5, .ref (b 2)), (6, .ref (b 3)), (13, .int x13), (14, .int x14), (15, .int x15), (16, .int x16), (17, .int x17), (18, .int x18), (19, .int x19), (20, .int x20), (21, .int x21), (22, .int x22), (23, .int x23), (24, .int x24), (25, .ref (b 4)), (26, .ref (b 5))]) (fun b => [.long s0, .int s1, .ref (b 5)]) := by
  refine q_last 5 3 A5 (fun f212 => [.inl (24, A0), .inl (36, A1), .inl (6, A2), .inr (3, A3), .inl (6, A4), .inr (3, f212)]) rfl (fun _ => rfl) dL_law_1707 rfl h (fun f212 h => ?_)
  refine q_iload 17 dL_law_1708 rfl (fun _ => rfl) ?_
  refine q_if_ne dL_law_1710 rfl rfl h (fun c h => ?_) (fun c h => ?_)
  · refine q_iconst dL_law_1754 rfl ki_1 ?_
    refine q_goto dL_law_1755 rfl ?_
    refine q_istoreV (fun b => [(23, .int (1 : Int32)), (0, .ref (qb Y)), (1, .ref (xad (qX Y) 0)), (2, .ref (b 0)), (3, .ref (b 1)), (4, .int x4), (5, .ref (b 2)), (6, .ref (b 3)), (13, .int x13), (14, .int x14), (15, .int x15), (16, .int x16), (17, .int x17), (18, .int x18), (19, .int x19), (20, .int x20), (21, .int x21), (22, .int x22), (24, .int x24), (25, .ref (b 4)), (26, .ref (b 5))]) dL_law_1759 rfl (show 23 < 27 by decide) (fun _ => rfl) ?_
    refine q_iinc 18 (fun x_213 => (fun b => [(24, .int x_213), (23, .int (1 : Int32)), (0, .ref (qb Y)), (1, .ref (xad (qX Y) 0)), (2, .ref (b 0)), (3, .ref (b 1)), (4, .int x4), (5, .ref (b 2)), (6, .ref (b 3)), (13, .int x13), (14, .int x14), (15, .int x15), (16, .int x16), (17, .int x17), (18, .int x18), (19, .int x19), (20, .int x20), (21, .int x21), (22, .int x22), (25, .ref (b 4)), (26, .ref (b 5))])) dL_law_1761 rfl (fun _ => rfl) ki_1 (show 24 < 27 by decide) (fun _ _ => rfl) h (fun x_213 h => ?_)
    refine q_goto dL_law_1764 rfl ?_
    refine q_sub [2, 3, 4, 5, 6, 7, 8, 9, 10, 11, 12, 13, 14, 15, 16, 17, 18, 1, 0] (fun b => [(0, .ref (qb Y)), (1, .ref (xad (qX Y) 0)), (2, .ref (b 0)), (3, .ref (b 1)), (4, .int x4), (5, .ref (b 2)), (6, .ref (b 3)), (13, .int x13), (14, .int x14), (15, .int x15), (16, .int x16), (17, .int x17), (18, .int x18), (19, .int x19), (20, .int x20), (21, .int x21), (22, .int x22), (23, .int (1 : Int32)), (24, .int x_213)]) (fun _ => rfl) ?_
    refine q_pick [0, 1, 2, 3] [.inl (24, A0), .inl (36, A1), .inl (6, A2), .inr (3, A3)] [] (fun b => [(0, .ref (qb Y)), (1, .ref (xad (qX Y) 0)), (2, .ref (b 0)), (3, .ref (b 1)), (4, .int x4), (5, .ref (b 2)), (6, .ref (b 3)), (13, .int x13), (14, .int x14), (15, .int x15), (16, .int x16), (17, .int x17), (18, .int x18), (19, .int x19), (20, .int x20), (21, .int x21), (22, .int x22), (23, .int (1 : Int32)), (24, .int x_213)]) (fun _ => []) rfl rfl (by decide) rfl (fun _ => rfl) (fun _ => rfl) ?_
    exact hr1642 σ _ A0 A1 A2 A3 x4 x13 x14 x15 x16 x17 x18 x19 x20 x21 x22 (1 : Int32) x_213 h
  · refine q_aload 5 (fun b => b 2) dL_law_1713 rfl (fun _ => rfl) ?_
    refine q_iload 7 dL_law_1715 rfl (fun _ => rfl) ?_
    refine q_iald 2 6 A2 rfl dL_law_1717 rfl h (fun j214 h => ?_)
    refine q_if_lt dL_law_1718 rfl rfl h (fun c h => ?_) (fun c h => ?_)
    · refine q_iconst dL_law_1758 rfl ki_0 ?_
      refine q_istoreV (fun b => [(23, .int (0 : Int32)), (0, .ref (qb Y)), (1, .ref (xad (qX Y) 0)), (2, .ref (b 0)), (3, .ref (b 1)), (4, .int x4), (5, .ref (b 2)), (6, .ref (b 3)), (13, .int x13), (14, .int x14), (15, .int x15), (16, .int x16), (17, .int x17), (18, .int x18), (19, .int x19), (20, .int x20), (21, .int x21), (22, .int x22), (24, .int x24), (25, .ref (b 4)), (26, .ref (b 5))]) dL_law_1759 rfl (show 23 < 27 by decide) (fun _ => rfl) ?_
      refine q_iinc 18 (fun x_215 => (fun b => [(24, .int x_215), (23, .int (0 : Int32)), (0, .ref (qb Y)), (1, .ref (xad (qX Y) 0)), (2, .ref (b 0)), (3, .ref (b 1)), (4, .int x4), (5, .ref (b 2)), (6, .ref (b 3)), (13, .int x13), (14, .int x14), (15, .int x15), (16, .int x16), (17, .int x17), (18, .int x18), (19, .int x19), (20, .int x20), (21, .int x21), (22, .int x22), (25, .ref (b 4)), (26, .ref (b 5))])) dL_law_1761 rfl (fun _ => rfl) ki_1 (show 24 < 27 by decide) (fun _ _ => rfl) h (fun x_215 h => ?_)
      refine q_goto dL_law_1764 rfl ?_
      refine q_sub [2, 3, 4, 5, 6, 7, 8, 9, 10, 11, 12, 13, 14, 15, 16, 17, 18, 1, 0] (fun b => [(0, .ref (qb Y)), (1, .ref (xad (qX Y) 0)), (2, .ref (b 0)), (3, .ref (b 1)), (4, .int x4), (5, .ref (b 2)), (6, .ref (b 3)), (13, .int x13), (14, .int x14), (15, .int x15), (16, .int x16), (17, .int x17), (18, .int x18), (19, .int x19), (20, .int x20), (21, .int x21), (22, .int x22), (23, .int (0 : Int32)), (24, .int x_215)]) (fun _ => rfl) ?_
      refine q_pick [0, 1, 2, 3] [.inl (24, A0), .inl (36, A1), .inl (6, A2), .inr (3, A3)] [] (fun b => [(0, .ref (qb Y)), (1, .ref (xad (qX Y) 0)), (2, .ref (b 0)), (3, .ref (b 1)), (4, .int x4), (5, .ref (b 2)), (6, .ref (b 3)), (13, .int x13), (14, .int x14), (15, .int x15), (16, .int x16), (17, .int x17), (18, .int x18), (19, .int x19), (20, .int x20), (21, .int x21), (22, .int x22), (23, .int (0 : Int32)), (24, .int x_215)]) (fun _ => []) rfl rfl (by decide) rfl (fun _ => rfl) (fun _ => rfl) ?_
      exact hr1642 σ _ A0 A1 A2 A3 x4 x13 x14 x15 x16 x17 x18 x19 x20 x21 x22 (0 : Int32) x_215 h
    · refine q_aload_n 2 (fun b => b 0) dL_law_1721 rfl rfl (fun _ => rfl) ?_
      refine q_aload_n 3 (fun b => b 1) dL_law_1722 rfl rfl (fun _ => rfl) ?_
      refine q_aload 19 (fun b => b 4) dL_law_1723 rfl (fun _ => rfl) ?_
      refine q_aload 20 (fun b => b 5) dL_law_1725 rfl (fun _ => rfl) ?_
      refine q_iload 18 dL_law_1727 rfl (fun _ => rfl) ?_
      refine q_iconst dL_law_1729 rfl ki_4 ?_
      refine q_idiv dL_law_1730 rfl h (fun h => ?_)
      refine q_iload 18 dL_law_1731 rfl (fun _ => rfl) ?_
      refine q_iconst dL_law_1733 rfl ki_4 ?_
      refine q_irem dL_law_1734 rfl h (fun h => ?_)
      refine q_pick [2, 3, 0, 1, 4, 5] [.inl (6, A2), .inr (3, A3), .inl (24, A0), .inl (36, A1), .inl (6, A4), .inr (3, f212)] [] (fun b => [(0, .ref (qb Y)), (1, .ref (xad (qX Y) 0)), (2, .ref (b 2)), (3, .ref (b 3)), (4, .int x4), (5, .ref (b 0)), (6, .ref (b 1)), (13, .int x13), (14, .int x14), (15, .int x15), (16, .int x16), (17, .int x17), (18, .int x18), (19, .int x19), (20, .int x20), (21, .int x21), (22, .int x22), (23, .int x23), (24, .int x24), (25, .ref (b 4)), (26, .ref (b 5))]) (fun b => [.int (x24 - x24 / (4 : Int32) * (4 : Int32)), .int (x24 / (4 : Int32)), .ref (b 5), .ref (b 4), .ref (b 3), .ref (b 2)]) rfl rfl (by decide) rfl (fun _ => rfl) (fun _ => rfl) ?_
      obtain ⟨o216, hc, h⟩ := bn_of h
      refine q_call [.inl (6, A2), .inr (3, A3)] 2 (fun b => [.ref (b 2), .ref (b 3), .ref (b 4), .ref (b 5), .int (x24 / (4 : Int32)), .int (x24 - x24 / (4 : Int32) * (4 : Int32))]) (fun _ => []) (coL_push A0 A1 A4 f212 (x24 / (4 : Int32)) (x24 - x24 / (4 : Int32) * (4 : Int32)) o216 hc) rfl rfl rfl ms_RL_47 (by decide) (Or.inl rfl) (fun _ => rfl) (fun _ => rfl) (fun _ => rfl) (fun _ => Nat.le_of_ble_eq_true rfl) dL_law_1735 rfl ?_
      show JQ Y mL_law (some σ) [] [.inl (6, A2), .inr (3, A3), .inl (24, A0), .inl (36, A1), .inl (6, o216.2.1), .inr (3, o216.2.2)] _ 1738 (fun b => [(0, .ref (qb Y)), (1, .ref (xad (qX Y) 0)), (2, .ref (b 2)), (3, .ref (b 3)), (4, .int x4), (5, .ref (b 0)), (6, .ref (b 1)), (13, .int x13), (14, .int x14), (15, .int x15), (16, .int x16), (17, .int x17), (18, .int x18), (19, .int x19), (20, .int x20), (21, .int x21), (22, .int x22), (23, .int x23), (24, .int x24), (25, .ref (b 4)), (26, .ref (b 5))]) (fun _ => [.int o216.1])
      refine q_if_lt dL_law_1738 rfl rfl h (fun c h => ?_) (fun c h => ?_)
      · refine q_iconst dL_law_1758 rfl ki_0 ?_
        refine q_istoreV (fun b => [(23, .int (0 : Int32)), (0, .ref (qb Y)), (1, .ref (xad (qX Y) 0)), (2, .ref (b 2)), (3, .ref (b 3)), (4, .int x4), (5, .ref (b 0)), (6, .ref (b 1)), (13, .int x13), (14, .int x14), (15, .int x15), (16, .int x16), (17, .int x17), (18, .int x18), (19, .int x19), (20, .int x20), (21, .int x21), (22, .int x22), (24, .int x24), (25, .ref (b 4)), (26, .ref (b 5))]) dL_law_1759 rfl (show 23 < 27 by decide) (fun _ => rfl) ?_
        refine q_iinc 18 (fun x_217 => (fun b => [(24, .int x_217), (23, .int (0 : Int32)), (0, .ref (qb Y)), (1, .ref (xad (qX Y) 0)), (2, .ref (b 2)), (3, .ref (b 3)), (4, .int x4), (5, .ref (b 0)), (6, .ref (b 1)), (13, .int x13), (14, .int x14), (15, .int x15), (16, .int x16), (17, .int x17), (18, .int x18), (19, .int x19), (20, .int x20), (21, .int x21), (22, .int x22), (25, .ref (b 4)), (26, .ref (b 5))])) dL_law_1761 rfl (fun _ => rfl) ki_1 (show 24 < 27 by decide) (fun _ _ => rfl) h (fun x_217 h => ?_)
        refine q_goto dL_law_1764 rfl ?_
        refine q_sub [2, 3, 4, 5, 6, 7, 8, 9, 10, 11, 12, 13, 14, 15, 16, 17, 18, 1, 0] (fun b => [(0, .ref (qb Y)), (1, .ref (xad (qX Y) 0)), (2, .ref (b 2)), (3, .ref (b 3)), (4, .int x4), (5, .ref (b 0)), (6, .ref (b 1)), (13, .int x13), (14, .int x14), (15, .int x15), (16, .int x16), (17, .int x17), (18, .int x18), (19, .int x19), (20, .int x20), (21, .int x21), (22, .int x22), (23, .int (0 : Int32)), (24, .int x_217)]) (fun _ => rfl) ?_
        refine q_pick [2, 3, 0, 1] [.inl (24, A0), .inl (36, A1), .inl (6, A2), .inr (3, A3)] [] (fun b => [(0, .ref (qb Y)), (1, .ref (xad (qX Y) 0)), (2, .ref (b 0)), (3, .ref (b 1)), (4, .int x4), (5, .ref (b 2)), (6, .ref (b 3)), (13, .int x13), (14, .int x14), (15, .int x15), (16, .int x16), (17, .int x17), (18, .int x18), (19, .int x19), (20, .int x20), (21, .int x21), (22, .int x22), (23, .int (0 : Int32)), (24, .int x_217)]) (fun _ => []) rfl rfl (by decide) rfl (fun _ => rfl) (fun _ => rfl) ?_
        exact hr1642 σ _ A0 A1 A2 A3 x4 x13 x14 x15 x16 x17 x18 x19 x20 x21 x22 (0 : Int32) x_217 h
      · refine q_aload 19 (fun b => b 4) dL_law_1741 rfl (fun _ => rfl) ?_
        refine q_iload 7 dL_law_1743 rfl (fun _ => rfl) ?_
        refine q_iald 4 6 o216.2.1 rfl dL_law_1745 rfl h (fun j218 h => ?_)
        refine q_bipush dL_law_1746 rfl kb_m20 ?_
        refine q_iload 8 dL_law_1748 rfl (fun _ => rfl) ?_
        refine q_isub dL_law_1750 rfl ?_
        refine q_icmp_ne dL_law_1751 rfl rfl h (fun c h => ?_) (fun c h => ?_)
        · refine q_iconst dL_law_1758 rfl ki_0 ?_
          refine q_istoreV (fun b => [(23, .int (0 : Int32)), (0, .ref (qb Y)), (1, .ref (xad (qX Y) 0)), (2, .ref (b 2)), (3, .ref (b 3)), (4, .int x4), (5, .ref (b 0)), (6, .ref (b 1)), (13, .int x13), (14, .int x14), (15, .int x15), (16, .int x16), (17, .int x17), (18, .int x18), (19, .int x19), (20, .int x20), (21, .int x21), (22, .int x22), (24, .int x24), (25, .ref (b 4)), (26, .ref (b 5))]) dL_law_1759 rfl (show 23 < 27 by decide) (fun _ => rfl) ?_
          refine q_iinc 18 (fun x_219 => (fun b => [(24, .int x_219), (23, .int (0 : Int32)), (0, .ref (qb Y)), (1, .ref (xad (qX Y) 0)), (2, .ref (b 2)), (3, .ref (b 3)), (4, .int x4), (5, .ref (b 0)), (6, .ref (b 1)), (13, .int x13), (14, .int x14), (15, .int x15), (16, .int x16), (17, .int x17), (18, .int x18), (19, .int x19), (20, .int x20), (21, .int x21), (22, .int x22), (25, .ref (b 4)), (26, .ref (b 5))])) dL_law_1761 rfl (fun _ => rfl) ki_1 (show 24 < 27 by decide) (fun _ _ => rfl) h (fun x_219 h => ?_)
          refine q_goto dL_law_1764 rfl ?_
          refine q_sub [2, 3, 4, 5, 6, 7, 8, 9, 10, 11, 12, 13, 14, 15, 16, 17, 18, 1, 0] (fun b => [(0, .ref (qb Y)), (1, .ref (xad (qX Y) 0)), (2, .ref (b 2)), (3, .ref (b 3)), (4, .int x4), (5, .ref (b 0)), (6, .ref (b 1)), (13, .int x13), (14, .int x14), (15, .int x15), (16, .int x16), (17, .int x17), (18, .int x18), (19, .int x19), (20, .int x20), (21, .int x21), (22, .int x22), (23, .int (0 : Int32)), (24, .int x_219)]) (fun _ => rfl) ?_
          refine q_pick [2, 3, 0, 1] [.inl (24, A0), .inl (36, A1), .inl (6, A2), .inr (3, A3)] [] (fun b => [(0, .ref (qb Y)), (1, .ref (xad (qX Y) 0)), (2, .ref (b 0)), (3, .ref (b 1)), (4, .int x4), (5, .ref (b 2)), (6, .ref (b 3)), (13, .int x13), (14, .int x14), (15, .int x15), (16, .int x16), (17, .int x17), (18, .int x18), (19, .int x19), (20, .int x20), (21, .int x21), (22, .int x22), (23, .int (0 : Int32)), (24, .int x_219)]) (fun _ => []) rfl rfl (by decide) rfl (fun _ => rfl) (fun _ => rfl) ?_
          exact hr1642 σ _ A0 A1 A2 A3 x4 x13 x14 x15 x16 x17 x18 x19 x20 x21 x22 (0 : Int32) x_219 h
        · refine q_iconst dL_law_1754 rfl ki_1 ?_
          refine q_goto dL_law_1755 rfl ?_
          refine q_istoreV (fun b => [(23, .int (1 : Int32)), (0, .ref (qb Y)), (1, .ref (xad (qX Y) 0)), (2, .ref (b 2)), (3, .ref (b 3)), (4, .int x4), (5, .ref (b 0)), (6, .ref (b 1)), (13, .int x13), (14, .int x14), (15, .int x15), (16, .int x16), (17, .int x17), (18, .int x18), (19, .int x19), (20, .int x20), (21, .int x21), (22, .int x22), (24, .int x24), (25, .ref (b 4)), (26, .ref (b 5))]) dL_law_1759 rfl (show 23 < 27 by decide) (fun _ => rfl) ?_
          refine q_iinc 18 (fun x_220 => (fun b => [(24, .int x_220), (23, .int (1 : Int32)), (0, .ref (qb Y)), (1, .ref (xad (qX Y) 0)), (2, .ref (b 2)), (3, .ref (b 3)), (4, .int x4), (5, .ref (b 0)), (6, .ref (b 1)), (13, .int x13), (14, .int x14), (15, .int x15), (16, .int x16), (17, .int x17), (18, .int x18), (19, .int x19), (20, .int x20), (21, .int x21), (22, .int x22), (25, .ref (b 4)), (26, .ref (b 5))])) dL_law_1761 rfl (fun _ => rfl) ki_1 (show 24 < 27 by decide) (fun _ _ => rfl) h (fun x_220 h => ?_)
          refine q_goto dL_law_1764 rfl ?_
          refine q_sub [2, 3, 4, 5, 6, 7, 8, 9, 10, 11, 12, 13, 14, 15, 16, 17, 18, 1, 0] (fun b => [(0, .ref (qb Y)), (1, .ref (xad (qX Y) 0)), (2, .ref (b 2)), (3, .ref (b 3)), (4, .int x4), (5, .ref (b 0)), (6, .ref (b 1)), (13, .int x13), (14, .int x14), (15, .int x15), (16, .int x16), (17, .int x17), (18, .int x18), (19, .int x19), (20, .int x20), (21, .int x21), (22, .int x22), (23, .int (1 : Int32)), (24, .int x_220)]) (fun _ => rfl) ?_
          refine q_pick [2, 3, 0, 1] [.inl (24, A0), .inl (36, A1), .inl (6, A2), .inr (3, A3)] [] (fun b => [(0, .ref (qb Y)), (1, .ref (xad (qX Y) 0)), (2, .ref (b 0)), (3, .ref (b 1)), (4, .int x4), (5, .ref (b 2)), (6, .ref (b 3)), (13, .int x13), (14, .int x14), (15, .int x15), (16, .int x16), (17, .int x17), (18, .int x18), (19, .int x19), (20, .int x20), (21, .int x21), (22, .int x22), (23, .int (1 : Int32)), (24, .int x_220)]) (fun _ => []) rfl rfl (by decide) rfl (fun _ => rfl) (fun _ => rfl) ?_
          exact hr1642 σ _ A0 A1 A2 A3 x4 x13 x14 x15 x16 x17 x18 x19 x20 x21 x22 (1 : Int32) x_220 h
noncomputable def FL_law_1666 (L : Nat) (xs : Nat → Int32) (rl1488 : Mem → Nat → (Nat → Int32) → (Nat → Int32) → (Nat → Int32) → (Nat → Int64) → Int32 → Int32 → Option (Int32)) (rl1533 : Mem → Nat → (Nat → Int32) → (Nat → Int32) → (Nat → Int32) → (Nat → Int64) → Int32 → Int32 → Int32 → Int32 → Int32 → Int32 → Int32 → Int32 → Option (Int32)) (rl1558 : Mem → Nat → (Nat → Int32) → (Nat → Int32) → (Nat → Int32) → (Nat → Int64) → Int32 → Int32 → Int32 → Int32 → Int32 → Int32 → Int32 → Int32 → Int32 → Option (Int32)) (rl1642 : Mem → Nat → (Nat → Int32) → (Nat → Int32) → (Nat → Int32) → (Nat → Int64) → Int32 → Int32 → Int32 → Int32 → Int32 → Int32 → Int32 → Int32 → Int32 → Int32 → Int32 → Int32 → Int32 → Option (Int32)) (σ : Mem) (n : Nat) (A0 : Nat → Int32) (A1 : Nat → Int32) (A2 : Nat → Int32) (A3 : Nat → Int64) (x4 : Int32) (x13 : Int32) (x14 : Int32) (x15 : Int32) (x16 : Int32) (x17 : Int32) (x18 : Int32) (x19 : Int32) (x20 : Int32) (x21 : Int32) (x22 : Int32) (x23 : Int32) (x24 : Int32) : Option (Int32) :=
  bn (FL_copied A2 0) fun o221 =>
  al 600000 n 1 fun n222 =>
  al 600000 n222 1 fun n223 =>
  rd (0 : Int32) 3 fun j224 =>
  stB (0 : Int32) 3 zL (A3 j224) fun f225 =>
  if 0 ≤ x19 then
  (FL_law_1707 L xs rl1488 rl1533 rl1558 rl1642 σ n223 A0 A1 A2 A3 o221 f225 x4 x13 x14 x15 x16 x17 x18 x19 x20 x21 x22 x23 x24 (((1 : Int64) <<< ((x19).toInt64 &&& 63)) ||| ((1 : Int64) <<< ((x20).toInt64 &&& 63))) (2 : Int32))
  else
  (FL_law_1707 L xs rl1488 rl1533 rl1558 rl1642 σ n223 A0 A1 A2 A3 o221 f225 x4 x13 x14 x15 x16 x17 x18 x19 x20 x21 x22 x23 x24 (0 : Int64) (2 : Int32))
set_option maxHeartbeats 4000000 in
set_option maxRecDepth 100000 in
theorem jL_law_1666 {Y : QX} {out : Int32} (hE : ∀ σ2 : Mem, EndQ Y mL_law .ireturn [] (some σ2) [] (fun _ => [.int out])) (rl1488 : Mem → Nat → (Nat → Int32) → (Nat → Int32) → (Nat → Int32) → (Nat → Int64) → Int32 → Int32 → Option (Int32)) (hr1488 : ∀ (σ : Mem) (n : Nat) (A0 : Nat → Int32) (A1 : Nat → Int32) (A2 : Nat → Int32) (A3 : Nat → Int64) (x4 : Int32) (x13 : Int32), rl1488 σ n A0 A1 A2 A3 x4 x13 = some out → JQ Y mL_law (some σ) [] [.inl (24, A0), .inl (36, A1), .inl (6, A2), .inr (3, A3)] n 1488 (fun b => [(0, .ref (qb Y)), (1, .ref (xad (qX Y) 0)), (2, .ref (b 0)), (3, .ref (b 1)), (4, .int x4), (5, .ref (b 2)), (6, .ref (b 3)), (13, .int x13)]) (fun _ => [])) (rl1533 : Mem → Nat → (Nat → Int32) → (Nat → Int32) → (Nat → Int32) → (Nat → Int64) → Int32 → Int32 → Int32 → Int32 → Int32 → Int32 → Int32 → Int32 → Option (Int32)) (hr1533 : ∀ (σ : Mem) (n : Nat) (A0 : Nat → Int32) (A1 : Nat → Int32) (A2 : Nat → Int32) (A3 : Nat → Int64) (x4 : Int32) (x13 : Int32) (x14 : Int32) (x15 : Int32) (x16 : Int32) (x17 : Int32) (x18 : Int32) (x19 : Int32), rl1533 σ n A0 A1 A2 A3 x4 x13 x14 x15 x16 x17 x18 x19 = some out → JQ Y mL_law (some σ) [] [.inl (24, A0), .inl (36, A1), .inl (6, A2), .inr (3, A3)] n 1533 (fun b => [(0, .ref (qb Y)), (1, .ref (xad (qX Y) 0)), (2, .ref (b 0)), (3, .ref (b 1)), (4, .int x4), (5, .ref (b 2)), (6, .ref (b 3)), (13, .int x13), (14, .int x14), (15, .int x15), (16, .int x16), (17, .int x17), (18, .int x18), (19, .int x19)]) (fun _ => [])) (rl1558 : Mem → Nat → (Nat → Int32) → (Nat → Int32) → (Nat → Int32) → (Nat → Int64) → Int32 → Int32 → Int32 → Int32 → Int32 → Int32 → Int32 → Int32 → Int32 → Option (Int32)) (hr1558 : ∀ (σ : Mem) (n : Nat) (A0 : Nat → Int32) (A1 : Nat → Int32) (A2 : Nat → Int32) (A3 : Nat → Int64) (x4 : Int32) (x13 : Int32) (x14 : Int32) (x15 : Int32) (x16 : Int32) (x17 : Int32) (x18 : Int32) (x19 : Int32) (x20 : Int32), rl1558 σ n A0 A1 A2 A3 x4 x13 x14 x15 x16 x17 x18 x19 x20 = some out → JQ Y mL_law (some σ) [] [.inl (24, A0), .inl (36, A1), .inl (6, A2), .inr (3, A3)] n 1558 (fun b => [(0, .ref (qb Y)), (1, .ref (xad (qX Y) 0)), (2, .ref (b 0)), (3, .ref (b 1)), (4, .int x4), (5, .ref (b 2)), (6, .ref (b 3)), (13, .int x13), (14, .int x14), (15, .int x15), (16, .int x16), (17, .int x17), (18, .int x18), (19, .int x19), (20, .int x20)]) (fun _ => [])) (rl1642 : Mem → Nat → (Nat → Int32) → (Nat → Int32) → (Nat → Int32) → (Nat → Int64) → Int32 → Int32 → Int32 → Int32 → Int32 → Int32 → Int32 → Int32 → Int32 → Int32 → Int32 → Int32 → Int32 → Option (Int32)) (hr1642 : ∀ (σ : Mem) (n : Nat) (A0 : Nat → Int32) (A1 : Nat → Int32) (A2 : Nat → Int32) (A3 : Nat → Int64) (x4 : Int32) (x13 : Int32) (x14 : Int32) (x15 : Int32) (x16 : Int32) (x17 : Int32) (x18 : Int32) (x19 : Int32) (x20 : Int32) (x21 : Int32) (x22 : Int32) (x23 : Int32) (x24 : Int32), rl1642 σ n A0 A1 A2 A3 x4 x13 x14 x15 x16 x17 x18 x19 x20 x21 x22 x23 x24 = some out → JQ Y mL_law (some σ) [] [.inl (24, A0), .inl (36, A1), .inl (6, A2), .inr (3, A3)] n 1642 (fun b => [(0, .ref (qb Y)), (1, .ref (xad (qX Y) 0)), (2, .ref (b 0)), (3, .ref (b 1)), (4, .int x4), (5, .ref (b 2)), (6, .ref (b 3)), (13, .int x13), (14, .int x14), (15, .int x15), (16, .int x16), (17, .int x17), (18, .int x18), (19, .int x19), (20, .int x20), (21, .int x21), (22, .int x22), (23, .int x23), (24, .int x24)]) (fun _ => [])) (σ : Mem) (n : Nat) (A0 : Nat → Int32) (A1 : Nat → Int32) (A2 : Nat → Int32) (A3 : Nat → Int64) (x4 : Int32) (x13 : Int32) (x14 : Int32) (x15 : Int32) (x16 : Int32) (x17 : Int32) (x18 : Int32) (x19 : Int32) (x20 : Int32) (x21 : Int32) (x22 : Int32) (x23 : Int32) (x24 : Int32) (h : FL_law_1666 (qL Y) (qs Y) rl1488 rl1533 rl1558 rl1642 σ n A0 A1 A2 A3 x4 x13 x14 x15 x16 x17 x18 x19 x20 x21 x22 x23 x24 = some out) : JQ Y mL_law (some σ) [] [.inl (24, A0), .inl (36, A1), .inl (6, A2), .inr (3, A3)] n 1666 (fun b => [(0, .ref (qb Y)), (1, .ref (xad (qX Y) 0)), (2, .ref (b 0)), (3, .ref (b 1)), (4, .int x4), (5, .ref (b 2)), (6, .ref (b 3)), (13, .int x13), (14, .int x14), (15, .int x15), (16, .int x16), (17, .int x17), (18, .int x18), (19, .int x19), (20, .int x20), (21, .int x21), (22, .int x22), (23, .int x23), (24, .int x24)]) (fun _ => []) := by
  refine q_aload 5 (fun b => b 2) dL_law_1666 rfl (fun _ => rfl) ?_
  refine q_pick [0, 1, 3, 2] [.inl (24, A0), .inl (36, A1), .inr (3, A3), .inl (6, A2)] [] (fun b => [(0, .ref (qb Y)), (1, .ref (xad (qX Y) 0)), (2, .ref (b 0)), (3, .ref (b 1)), (4, .int x4), (5, .ref (b 3)), (6, .ref (b 2)), (13, .int x13), (14, .int x14), (15, .int x15), (16, .int x16), (17, .int x17), (18, .int x18), (19, .int x19), (20, .int x20), (21, .int x21), (22, .int x22), (23, .int x23), (24, .int x24)]) (fun b => [.ref (b 3)]) rfl rfl (by decide) rfl (fun _ => rfl) (fun _ => rfl) ?_
  obtain ⟨o221, hc, h⟩ := bn_of h
  refine q_callA [.inl (24, A0), .inl (36, A1), .inr (3, A3)] 3 1 4 (fun b => [.ref (b 3)]) (fun _ => []) (coL_copied A2 o221 hc) rfl rfl rfl rfl ms_RL_44 (by decide) h (fun _ => rfl) (fun _ => rfl) (fun _ => rfl) (fun _ => Nat.le_of_ble_eq_true rfl) (fun _ _ => rfl) (fun _ _ => rfl) (by decide) dL_law_1668 rfl (fun h => ?_)
  show JQ Y mL_law (some σ) [] [.inl (24, A0), .inl (36, A1), .inr (3, A3), .inl (6, A2), .inl (6, o221)] _ 1671 (fun b => [(0, .ref (qb Y)), (1, .ref (xad (qX Y) 0)), (2, .ref (b 0)), (3, .ref (b 1)), (4, .int x4), (5, .ref (b 3)), (6, .ref (b 2)), (13, .int x13), (14, .int x14), (15, .int x15), (16, .int x16), (17, .int x17), (18, .int x18), (19, .int x19), (20, .int x20), (21, .int x21), (22, .int x22), (23, .int x23), (24, .int x24)]) (fun b => [.ref (b 4)])
  refine q_astore (fun b => b 4) (fun b => [(25, .ref (b 4)), (0, .ref (qb Y)), (1, .ref (xad (qX Y) 0)), (2, .ref (b 0)), (3, .ref (b 1)), (4, .int x4), (5, .ref (b 3)), (6, .ref (b 2)), (13, .int x13), (14, .int x14), (15, .int x15), (16, .int x16), (17, .int x17), (18, .int x18), (19, .int x19), (20, .int x20), (21, .int x21), (22, .int x22), (23, .int x23), (24, .int x24)]) dL_law_1671 rfl (show 25 < 27 by decide) (fun _ => rfl) ?_
  refine q_iconst dL_law_1673 rfl ki_3 ?_
  refine q_newL 1 5 3 [.inl (24, A0), .inl (36, A1), .inr (3, A3), .inl (6, A2), .inl (6, o221), .inr (3, zL)] aw_J (by decide) (by decide) (by decide) (by decide) (by decide) rfl (fun _ _ => rfl) (fun _ _ => rfl) (by decide) rfl dL_law_1674 rfl h (fun h => ?_)
  refine q_astore (fun b => b 5) (fun b => [(26, .ref (b 5)), (25, .ref (b 4)), (0, .ref (qb Y)), (1, .ref (xad (qX Y) 0)), (2, .ref (b 0)), (3, .ref (b 1)), (4, .int x4), (5, .ref (b 3)), (6, .ref (b 2)), (13, .int x13), (14, .int x14), (15, .int x15), (16, .int x16), (17, .int x17), (18, .int x18), (19, .int x19), (20, .int x20), (21, .int x21), (22, .int x22), (23, .int x23), (24, .int x24)]) dL_law_1676 rfl (show 26 < 27 by decide) (fun _ => rfl) ?_
  refine q_aload 0 (fun b => b 5) dL_law_1678 rfl (fun _ => rfl) ?_
  refine q_iconst dL_law_1680 rfl ki_0 ?_
  refine q_aload 8 (fun b => b 2) dL_law_1681 rfl (fun _ => rfl) ?_
  refine q_iconst dL_law_1683 rfl ki_0 ?_
  refine q_lald 2 3 A3 rfl dL_law_1684 rfl h (fun j224 h => ?_)
  refine q_last 5 3 zL (fun f225 => [.inl (24, A0), .inl (36, A1), .inr (3, A3), .inl (6, A2), .inl (6, o221), .inr (3, f225)]) rfl (fun _ => rfl) dL_law_1685 rfl h (fun f225 h => ?_)
  refine q_aload 0 (fun b => b 5) dL_law_1686 rfl (fun _ => rfl) ?_
  refine q_iconst dL_law_1688 rfl ki_2 ?_
  refine q_iload 15 dL_law_1689 rfl (fun _ => rfl) ?_
  refine q_if_ge dL_law_1691 rfl rfl h (fun c h => ?_) (fun c h => ?_)
  · refine q_lconst dL_law_1698 rfl kl_1 ?_
    refine q_iload 15 dL_law_1699 rfl (fun _ => rfl) ?_
    refine q_lshl dL_law_1701 rfl ?_
    refine q_lconst dL_law_1702 rfl kl_1 ?_
    refine q_iload 16 dL_law_1703 rfl (fun _ => rfl) ?_
    refine q_lshl dL_law_1705 rfl ?_
    refine q_lor dL_law_1706 rfl ?_
    refine q_sub [2, 3, 4, 5, 6, 7, 8, 9, 10, 11, 12, 13, 14, 15, 16, 17, 18, 19, 20, 1, 0] (fun b => [(0, .ref (qb Y)), (1, .ref (xad (qX Y) 0)), (2, .ref (b 0)), (3, .ref (b 1)), (4, .int x4), (5, .ref (b 3)), (6, .ref (b 2)), (13, .int x13), (14, .int x14), (15, .int x15), (16, .int x16), (17, .int x17), (18, .int x18), (19, .int x19), (20, .int x20), (21, .int x21), (22, .int x22), (23, .int x23), (24, .int x24), (25, .ref (b 4)), (26, .ref (b 5))]) (fun _ => rfl) ?_
    refine q_pick [0, 1, 3, 2, 4, 5] [.inl (24, A0), .inl (36, A1), .inl (6, A2), .inr (3, A3), .inl (6, o221), .inr (3, f225)] [] (fun b => [(0, .ref (qb Y)), (1, .ref (xad (qX Y) 0)), (2, .ref (b 0)), (3, .ref (b 1)), (4, .int x4), (5, .ref (b 2)), (6, .ref (b 3)), (13, .int x13), (14, .int x14), (15, .int x15), (16, .int x16), (17, .int x17), (18, .int x18), (19, .int x19), (20, .int x20), (21, .int x21), (22, .int x22), (23, .int x23), (24, .int x24), (25, .ref (b 4)), (26, .ref (b 5))]) (fun b => [.long (((1 : Int64) <<< ((x19).toInt64 &&& 63)) ||| ((1 : Int64) <<< ((x20).toInt64 &&& 63))), .int (2 : Int32), .ref (b 5)]) rfl rfl (by decide) rfl (fun _ => rfl) (fun _ => rfl) ?_
    exact jL_law_1707 hE rl1488 hr1488 rl1533 hr1533 rl1558 hr1558 rl1642 hr1642 σ _ A0 A1 A2 A3 o221 f225 x4 x13 x14 x15 x16 x17 x18 x19 x20 x21 x22 x23 x24 (((1 : Int64) <<< ((x19).toInt64 &&& 63)) ||| ((1 : Int64) <<< ((x20).toInt64 &&& 63))) (2 : Int32) h
  · refine q_lconst dL_law_1694 rfl kl_0 ?_
    refine q_goto dL_law_1695 rfl ?_
    refine q_sub [2, 3, 4, 5, 6, 7, 8, 9, 10, 11, 12, 13, 14, 15, 16, 17, 18, 19, 20, 1, 0] (fun b => [(0, .ref (qb Y)), (1, .ref (xad (qX Y) 0)), (2, .ref (b 0)), (3, .ref (b 1)), (4, .int x4), (5, .ref (b 3)), (6, .ref (b 2)), (13, .int x13), (14, .int x14), (15, .int x15), (16, .int x16), (17, .int x17), (18, .int x18), (19, .int x19), (20, .int x20), (21, .int x21), (22, .int x22), (23, .int x23), (24, .int x24), (25, .ref (b 4)), (26, .ref (b 5))]) (fun _ => rfl) ?_
    refine q_pick [0, 1, 3, 2, 4, 5] [.inl (24, A0), .inl (36, A1), .inl (6, A2), .inr (3, A3), .inl (6, o221), .inr (3, f225)] [] (fun b => [(0, .ref (qb Y)), (1, .ref (xad (qX Y) 0)), (2, .ref (b 0)), (3, .ref (b 1)), (4, .int x4), (5, .ref (b 2)), (6, .ref (b 3)), (13, .int x13), (14, .int x14), (15, .int x15), (16, .int x16), (17, .int x17), (18, .int x18), (19, .int x19), (20, .int x20), (21, .int x21), (22, .int x22), (23, .int x23), (24, .int x24), (25, .ref (b 4)), (26, .ref (b 5))]) (fun b => [.long (0 : Int64), .int (2 : Int32), .ref (b 5)]) rfl rfl (by decide) rfl (fun _ => rfl) (fun _ => rfl) ?_
    exact jL_law_1707 hE rl1488 hr1488 rl1533 hr1533 rl1558 hr1558 rl1642 hr1642 σ _ A0 A1 A2 A3 o221 f225 x4 x13 x14 x15 x16 x17 x18 x19 x20 x21 x22 x23 x24 (0 : Int64) (2 : Int32) h
noncomputable def BL_law_1642 (L : Nat) (xs : Nat → Int32) (rl1488 : Mem → Nat → (Nat → Int32) → (Nat → Int32) → (Nat → Int32) → (Nat → Int64) → Int32 → Int32 → Option (Int32)) (rl1533 : Mem → Nat → (Nat → Int32) → (Nat → Int32) → (Nat → Int32) → (Nat → Int64) → Int32 → Int32 → Int32 → Int32 → Int32 → Int32 → Int32 → Int32 → Option (Int32)) (rl1558 : Mem → Nat → (Nat → Int32) → (Nat → Int32) → (Nat → Int32) → (Nat → Int64) → Int32 → Int32 → Int32 → Int32 → Int32 → Int32 → Int32 → Int32 → Int32 → Option (Int32)) (rl1642 : Mem → Nat → (Nat → Int32) → (Nat → Int32) → (Nat → Int32) → (Nat → Int64) → Int32 → Int32 → Int32 → Int32 → Int32 → Int32 → Int32 → Int32 → Int32 → Int32 → Int32 → Int32 → Int32 → Option (Int32)) (σ : Mem) (n : Nat) (A0 : Nat → Int32) (A1 : Nat → Int32) (A2 : Nat → Int32) (A3 : Nat → Int64) (x4 : Int32) (x13 : Int32) (x14 : Int32) (x15 : Int32) (x16 : Int32) (x17 : Int32) (x18 : Int32) (x19 : Int32) (x20 : Int32) (x21 : Int32) (x22 : Int32) (x23 : Int32) (x24 : Int32) : Option (Int32) :=
  if x4 ≤ x24 then
  (FL_law_1767 L xs rl1488 rl1533 rl1558 σ n A0 A1 A2 A3 x4 x13 x14 x15 x16 x17 x18 x19 x20 x22 x23)
  else
  (if x21 = 0 then
  (FL_law_1767 L xs rl1488 rl1533 rl1558 σ n A0 A1 A2 A3 x4 x13 x14 x15 x16 x17 x18 x19 x20 x22 x23)
  else
  (if x16 < 0 then
  (FL_law_1666 L xs rl1488 rl1533 rl1558 rl1642 σ n A0 A1 A2 A3 x4 x13 x14 x15 x16 x17 x18 x19 x20 x21 x22 x23 x24)
  else
  (if x16 ≤ x22 then
  (FL_law_1767 L xs rl1488 rl1533 rl1558 σ n A0 A1 A2 A3 x4 x13 x14 x15 x16 x17 x18 x19 x20 x22 x23)
  else
  (FL_law_1666 L xs rl1488 rl1533 rl1558 rl1642 σ n A0 A1 A2 A3 x4 x13 x14 x15 x16 x17 x18 x19 x20 x21 x22 x23 x24))))
set_option maxHeartbeats 4000000 in
set_option maxRecDepth 100000 in
theorem jL_law_1642 {Y : QX} {out : Int32} (hE : ∀ σ2 : Mem, EndQ Y mL_law .ireturn [] (some σ2) [] (fun _ => [.int out])) (rl1488 : Mem → Nat → (Nat → Int32) → (Nat → Int32) → (Nat → Int32) → (Nat → Int64) → Int32 → Int32 → Option (Int32)) (hr1488 : ∀ (σ : Mem) (n : Nat) (A0 : Nat → Int32) (A1 : Nat → Int32) (A2 : Nat → Int32) (A3 : Nat → Int64) (x4 : Int32) (x13 : Int32), rl1488 σ n A0 A1 A2 A3 x4 x13 = some out → JQ Y mL_law (some σ) [] [.inl (24, A0), .inl (36, A1), .inl (6, A2), .inr (3, A3)] n 1488 (fun b => [(0, .ref (qb Y)), (1, .ref (xad (qX Y) 0)), (2, .ref (b 0)), (3, .ref (b 1)), (4, .int x4), (5, .ref (b 2)), (6, .ref (b 3)), (13, .int x13)]) (fun _ => [])) (rl1533 : Mem → Nat → (Nat → Int32) → (Nat → Int32) → (Nat → Int32) → (Nat → Int64) → Int32 → Int32 → Int32 → Int32 → Int32 → Int32 → Int32 → Int32 → Option (Int32)) (hr1533 : ∀ (σ : Mem) (n : Nat) (A0 : Nat → Int32) (A1 : Nat → Int32) (A2 : Nat → Int32) (A3 : Nat → Int64) (x4 : Int32) (x13 : Int32) (x14 : Int32) (x15 : Int32) (x16 : Int32) (x17 : Int32) (x18 : Int32) (x19 : Int32), rl1533 σ n A0 A1 A2 A3 x4 x13 x14 x15 x16 x17 x18 x19 = some out → JQ Y mL_law (some σ) [] [.inl (24, A0), .inl (36, A1), .inl (6, A2), .inr (3, A3)] n 1533 (fun b => [(0, .ref (qb Y)), (1, .ref (xad (qX Y) 0)), (2, .ref (b 0)), (3, .ref (b 1)), (4, .int x4), (5, .ref (b 2)), (6, .ref (b 3)), (13, .int x13), (14, .int x14), (15, .int x15), (16, .int x16), (17, .int x17), (18, .int x18), (19, .int x19)]) (fun _ => [])) (rl1558 : Mem → Nat → (Nat → Int32) → (Nat → Int32) → (Nat → Int32) → (Nat → Int64) → Int32 → Int32 → Int32 → Int32 → Int32 → Int32 → Int32 → Int32 → Int32 → Option (Int32)) (hr1558 : ∀ (σ : Mem) (n : Nat) (A0 : Nat → Int32) (A1 : Nat → Int32) (A2 : Nat → Int32) (A3 : Nat → Int64) (x4 : Int32) (x13 : Int32) (x14 : Int32) (x15 : Int32) (x16 : Int32) (x17 : Int32) (x18 : Int32) (x19 : Int32) (x20 : Int32), rl1558 σ n A0 A1 A2 A3 x4 x13 x14 x15 x16 x17 x18 x19 x20 = some out → JQ Y mL_law (some σ) [] [.inl (24, A0), .inl (36, A1), .inl (6, A2), .inr (3, A3)] n 1558 (fun b => [(0, .ref (qb Y)), (1, .ref (xad (qX Y) 0)), (2, .ref (b 0)), (3, .ref (b 1)), (4, .int x4), (5, .ref (b 2)), (6, .ref (b 3)), (13, .int x13), (14, .int x14), (15, .int x15), (16, .int x16), (17, .int x17), (18, .int x18), (19, .int x19), (20, .int x20)]) (fun _ => [])) (rl1642 : Mem → Nat → (Nat → Int32) → (Nat → Int32) → (Nat → Int32) → (Nat → Int64) → Int32 → Int32 → Int32 → Int32 → Int32 → Int32 → Int32 → Int32 → Int32 → Int32 → Int32 → Int32 → Int32 → Option (Int32)) (hr1642 : ∀ (σ : Mem) (n : Nat) (A0 : Nat → Int32) (A1 : Nat → Int32) (A2 : Nat → Int32) (A3 : Nat → Int64) (x4 : Int32) (x13 : Int32) (x14 : Int32) (x15 : Int32) (x16 : Int32) (x17 : Int32) (x18 : Int32) (x19 : Int32) (x20 : Int32) (x21 : Int32) (x22 : Int32) (x23 : Int32) (x24 : Int32), rl1642 σ n A0 A1 A2 A3 x4 x13 x14 x15 x16 x17 x18 x19 x20 x21 x22 x23 x24 = some out → JQ Y mL_law (some σ) [] [.inl (24, A0), .inl (36, A1), .inl (6, A2), .inr (3, A3)] n 1642 (fun b => [(0, .ref (qb Y)), (1, .ref (xad (qX Y) 0)), (2, .ref (b 0)), (3, .ref (b 1)), (4, .int x4), (5, .ref (b 2)), (6, .ref (b 3)), (13, .int x13), (14, .int x14), (15, .int x15), (16, .int x16), (17, .int x17), (18, .int x18), (19, .int x19), (20, .int x20), (21, .int x21), (22, .int x22), (23, .int x23), (24, .int x24)]) (fun _ => [])) (σ : Mem) (n : Nat) (A0 : Nat → Int32) (A1 : Nat → Int32) (A2 : Nat → Int32) (A3 : Nat → Int64) (x4 : Int32) (x13 : Int32) (x14 : Int32) (x15 : Int32) (x16 : Int32) (x17 : Int32) (x18 : Int32) (x19 : Int32) (x20 : Int32) (x21 : Int32) (x22 : Int32) (x23 : Int32) (x24 : Int32) (h : BL_law_1642 (qL Y) (qs Y) rl1488 rl1533 rl1558 rl1642 σ n A0 A1 A2 A3 x4 x13 x14 x15 x16 x17 x18 x19 x20 x21 x22 x23 x24 = some out) : JQ Y mL_law (some σ) [] [.inl (24, A0), .inl (36, A1), .inl (6, A2), .inr (3, A3)] n 1642 (fun b => [(0, .ref (qb Y)), (1, .ref (xad (qX Y) 0)), (2, .ref (b 0)), (3, .ref (b 1)), (4, .int x4), (5, .ref (b 2)), (6, .ref (b 3)), (13, .int x13), (14, .int x14), (15, .int x15), (16, .int x16), (17, .int x17), (18, .int x18), (19, .int x19), (20, .int x20), (21, .int x21), (22, .int x22), (23, .int x23), (24, .int x24)]) (fun _ => []) := by
  refine q_iload 18 dL_law_1642 rfl (fun _ => rfl) ?_
  refine q_iload 4 dL_law_1644 rfl (fun _ => rfl) ?_
  refine q_icmp_ge dL_law_1646 rfl rfl h (fun c h => ?_) (fun c h => ?_)
  · refine q_sub [0, 1, 2, 3, 4, 5, 6, 7, 8, 9, 10, 11, 12, 13, 14, 16, 17] (fun b => [(0, .ref (qb Y)), (1, .ref (xad (qX Y) 0)), (2, .ref (b 0)), (3, .ref (b 1)), (4, .int x4), (5, .ref (b 2)), (6, .ref (b 3)), (13, .int x13), (14, .int x14), (15, .int x15), (16, .int x16), (17, .int x17), (18, .int x18), (19, .int x19), (20, .int x20), (22, .int x22), (23, .int x23)]) (fun _ => rfl) ?_
    exact jL_law_1767 hE rl1488 hr1488 rl1533 hr1533 rl1558 hr1558 σ _ A0 A1 A2 A3 x4 x13 x14 x15 x16 x17 x18 x19 x20 x22 x23 h
  · refine q_iload 15 dL_law_1649 rfl (fun _ => rfl) ?_
    refine q_if_eq dL_law_1651 rfl rfl h (fun c h => ?_) (fun c h => ?_)
    · refine q_sub [0, 1, 2, 3, 4, 5, 6, 7, 8, 9, 10, 11, 12, 13, 14, 16, 17] (fun b => [(0, .ref (qb Y)), (1, .ref (xad (qX Y) 0)), (2, .ref (b 0)), (3, .ref (b 1)), (4, .int x4), (5, .ref (b 2)), (6, .ref (b 3)), (13, .int x13), (14, .int x14), (15, .int x15), (16, .int x16), (17, .int x17), (18, .int x18), (19, .int x19), (20, .int x20), (22, .int x22), (23, .int x23)]) (fun _ => rfl) ?_
      exact jL_law_1767 hE rl1488 hr1488 rl1533 hr1533 rl1558 hr1558 σ _ A0 A1 A2 A3 x4 x13 x14 x15 x16 x17 x18 x19 x20 x22 x23 h
    · refine q_iload 10 dL_law_1654 rfl (fun _ => rfl) ?_
      refine q_if_lt dL_law_1656 rfl rfl h (fun c h => ?_) (fun c h => ?_)
      · exact jL_law_1666 hE rl1488 hr1488 rl1533 hr1533 rl1558 hr1558 rl1642 hr1642 σ _ A0 A1 A2 A3 x4 x13 x14 x15 x16 x17 x18 x19 x20 x21 x22 x23 x24 h
      · refine q_iload 16 dL_law_1659 rfl (fun _ => rfl) ?_
        refine q_iload 10 dL_law_1661 rfl (fun _ => rfl) ?_
        refine q_icmp_ge dL_law_1663 rfl rfl h (fun c h => ?_) (fun c h => ?_)
        · refine q_sub [0, 1, 2, 3, 4, 5, 6, 7, 8, 9, 10, 11, 12, 13, 14, 16, 17] (fun b => [(0, .ref (qb Y)), (1, .ref (xad (qX Y) 0)), (2, .ref (b 0)), (3, .ref (b 1)), (4, .int x4), (5, .ref (b 2)), (6, .ref (b 3)), (13, .int x13), (14, .int x14), (15, .int x15), (16, .int x16), (17, .int x17), (18, .int x18), (19, .int x19), (20, .int x20), (22, .int x22), (23, .int x23)]) (fun _ => rfl) ?_
          exact jL_law_1767 hE rl1488 hr1488 rl1533 hr1533 rl1558 hr1558 σ _ A0 A1 A2 A3 x4 x13 x14 x15 x16 x17 x18 x19 x20 x22 x23 h
        · exact jL_law_1666 hE rl1488 hr1488 rl1533 hr1533 rl1558 hr1558 rl1642 hr1642 σ _ A0 A1 A2 A3 x4 x13 x14 x15 x16 x17 x18 x19 x20 x21 x22 x23 x24 h
noncomputable def FL_law_1642 (L : Nat) (xs : Nat → Int32) (rl1488 : Mem → Nat → (Nat → Int32) → (Nat → Int32) → (Nat → Int32) → (Nat → Int64) → Int32 → Int32 → Option (Int32)) (rl1533 : Mem → Nat → (Nat → Int32) → (Nat → Int32) → (Nat → Int32) → (Nat → Int64) → Int32 → Int32 → Int32 → Int32 → Int32 → Int32 → Int32 → Int32 → Option (Int32)) (rl1558 : Mem → Nat → (Nat → Int32) → (Nat → Int32) → (Nat → Int32) → (Nat → Int64) → Int32 → Int32 → Int32 → Int32 → Int32 → Int32 → Int32 → Int32 → Int32 → Option (Int32)) (fu : Nat) : Mem → Nat → (Nat → Int32) → (Nat → Int32) → (Nat → Int32) → (Nat → Int64) → Int32 → Int32 → Int32 → Int32 → Int32 → Int32 → Int32 → Int32 → Int32 → Int32 → Int32 → Int32 → Int32 → Option (Int32) :=
  Nat.rec (fun _ _ _ _ _ _ _ _ _ _ _ _ _ _ _ _ _ _ _ => none) (fun _ ih => BL_law_1642 L xs rl1488 rl1533 rl1558 ih) fu
theorem lL_law_1642 {Y : QX} {out : Int32} (hE : ∀ σ2 : Mem, EndQ Y mL_law .ireturn [] (some σ2) [] (fun _ => [.int out])) (rl1488 : Mem → Nat → (Nat → Int32) → (Nat → Int32) → (Nat → Int32) → (Nat → Int64) → Int32 → Int32 → Option (Int32)) (hr1488 : ∀ (σ : Mem) (n : Nat) (A0 : Nat → Int32) (A1 : Nat → Int32) (A2 : Nat → Int32) (A3 : Nat → Int64) (x4 : Int32) (x13 : Int32), rl1488 σ n A0 A1 A2 A3 x4 x13 = some out → JQ Y mL_law (some σ) [] [.inl (24, A0), .inl (36, A1), .inl (6, A2), .inr (3, A3)] n 1488 (fun b => [(0, .ref (qb Y)), (1, .ref (xad (qX Y) 0)), (2, .ref (b 0)), (3, .ref (b 1)), (4, .int x4), (5, .ref (b 2)), (6, .ref (b 3)), (13, .int x13)]) (fun _ => [])) (rl1533 : Mem → Nat → (Nat → Int32) → (Nat → Int32) → (Nat → Int32) → (Nat → Int64) → Int32 → Int32 → Int32 → Int32 → Int32 → Int32 → Int32 → Int32 → Option (Int32)) (hr1533 : ∀ (σ : Mem) (n : Nat) (A0 : Nat → Int32) (A1 : Nat → Int32) (A2 : Nat → Int32) (A3 : Nat → Int64) (x4 : Int32) (x13 : Int32) (x14 : Int32) (x15 : Int32) (x16 : Int32) (x17 : Int32) (x18 : Int32) (x19 : Int32), rl1533 σ n A0 A1 A2 A3 x4 x13 x14 x15 x16 x17 x18 x19 = some out → JQ Y mL_law (some σ) [] [.inl (24, A0), .inl (36, A1), .inl (6, A2), .inr (3, A3)] n 1533 (fun b => [(0, .ref (qb Y)), (1, .ref (xad (qX Y) 0)), (2, .ref (b 0)), (3, .ref (b 1)), (4, .int x4), (5, .ref (b 2)), (6, .ref (b 3)), (13, .int x13), (14, .int x14), (15, .int x15), (16, .int x16), (17, .int x17), (18, .int x18), (19, .int x19)]) (fun _ => [])) (rl1558 : Mem → Nat → (Nat → Int32) → (Nat → Int32) → (Nat → Int32) → (Nat → Int64) → Int32 → Int32 → Int32 → Int32 → Int32 → Int32 → Int32 → Int32 → Int32 → Option (Int32)) (hr1558 : ∀ (σ : Mem) (n : Nat) (A0 : Nat → Int32) (A1 : Nat → Int32) (A2 : Nat → Int32) (A3 : Nat → Int64) (x4 : Int32) (x13 : Int32) (x14 : Int32) (x15 : Int32) (x16 : Int32) (x17 : Int32) (x18 : Int32) (x19 : Int32) (x20 : Int32), rl1558 σ n A0 A1 A2 A3 x4 x13 x14 x15 x16 x17 x18 x19 x20 = some out → JQ Y mL_law (some σ) [] [.inl (24, A0), .inl (36, A1), .inl (6, A2), .inr (3, A3)] n 1558 (fun b => [(0, .ref (qb Y)), (1, .ref (xad (qX Y) 0)), (2, .ref (b 0)), (3, .ref (b 1)), (4, .int x4), (5, .ref (b 2)), (6, .ref (b 3)), (13, .int x13), (14, .int x14), (15, .int x15), (16, .int x16), (17, .int x17), (18, .int x18), (19, .int x19), (20, .int x20)]) (fun _ => [])) : ∀ (fu : Nat) (σ : Mem) (n : Nat) (A0 : Nat → Int32) (A1 : Nat → Int32) (A2 : Nat → Int32) (A3 : Nat → Int64) (x4 : Int32) (x13 : Int32) (x14 : Int32) (x15 : Int32) (x16 : Int32) (x17 : Int32) (x18 : Int32) (x19 : Int32) (x20 : Int32) (x21 : Int32) (x22 : Int32) (x23 : Int32) (x24 : Int32), FL_law_1642 (qL Y) (qs Y) rl1488 rl1533 rl1558 fu σ n A0 A1 A2 A3 x4 x13 x14 x15 x16 x17 x18 x19 x20 x21 x22 x23 x24 = some out → JQ Y mL_law (some σ) [] [.inl (24, A0), .inl (36, A1), .inl (6, A2), .inr (3, A3)] n 1642 (fun b => [(0, .ref (qb Y)), (1, .ref (xad (qX Y) 0)), (2, .ref (b 0)), (3, .ref (b 1)), (4, .int x4), (5, .ref (b 2)), (6, .ref (b 3)), (13, .int x13), (14, .int x14), (15, .int x15), (16, .int x16), (17, .int x17), (18, .int x18), (19, .int x19), (20, .int x20), (21, .int x21), (22, .int x22), (23, .int x23), (24, .int x24)]) (fun _ => []) := by
  intro fu
  induction fu with
  | zero => intro σ n A0 A1 A2 A3 x4 x13 x14 x15 x16 x17 x18 x19 x20 x21 x22 x23 x24 h; exact nn h
  | succ fu ih => intro σ n A0 A1 A2 A3 x4 x13 x14 x15 x16 x17 x18 x19 x20 x21 x22 x23 x24 h; exact jL_law_1642 hE rl1488 hr1488 rl1533 hr1533 rl1558 hr1558 (FL_law_1642 (qL Y) (qs Y) rl1488 rl1533 rl1558 fu) ih σ n A0 A1 A2 A3 x4 x13 x14 x15 x16 x17 x18 x19 x20 x21 x22 x23 x24 h
noncomputable def FL_law_1611 (L : Nat) (xs : Nat → Int32) (rl1488 : Mem → Nat → (Nat → Int32) → (Nat → Int32) → (Nat → Int32) → (Nat → Int64) → Int32 → Int32 → Option (Int32)) (rl1533 : Mem → Nat → (Nat → Int32) → (Nat → Int32) → (Nat → Int32) → (Nat → Int64) → Int32 → Int32 → Int32 → Int32 → Int32 → Int32 → Int32 → Int32 → Option (Int32)) (rl1558 : Mem → Nat → (Nat → Int32) → (Nat → Int32) → (Nat → Int32) → (Nat → Int64) → Int32 → Int32 → Int32 → Int32 → Int32 → Int32 → Int32 → Int32 → Int32 → Option (Int32)) (σ : Mem) (n : Nat) (A0 : Nat → Int32) (A1 : Nat → Int32) (A2 : Nat → Int32) (A3 : Nat → Int64) (x4 : Int32) (x13 : Int32) (x14 : Int32) (x15 : Int32) (x16 : Int32) (x17 : Int32) (x18 : Int32) (x19 : Int32) (x20 : Int32) (s0 : Int32) : Option (Int32) :=
  if 0 ≤ x19 then
  (if x20 = x19 then
  (FL_law_1642 L xs rl1488 rl1533 rl1558 FU σ n A0 A1 A2 A3 x4 x13 x14 x15 x16 x17 x18 x19 x20 s0 (1 : Int32) (0 : Int32) (0 : Int32))
  else
  (FL_law_1642 L xs rl1488 rl1533 rl1558 FU σ n A0 A1 A2 A3 x4 x13 x14 x15 x16 x17 x18 x19 x20 s0 (2 : Int32) (0 : Int32) (0 : Int32)))
  else
  (FL_law_1642 L xs rl1488 rl1533 rl1558 FU σ n A0 A1 A2 A3 x4 x13 x14 x15 x16 x17 x18 x19 x20 s0 (0 : Int32) (0 : Int32) (0 : Int32))
set_option maxHeartbeats 4000000 in
set_option maxRecDepth 100000 in
theorem jL_law_1611 {Y : QX} {out : Int32} (hE : ∀ σ2 : Mem, EndQ Y mL_law .ireturn [] (some σ2) [] (fun _ => [.int out])) (rl1488 : Mem → Nat → (Nat → Int32) → (Nat → Int32) → (Nat → Int32) → (Nat → Int64) → Int32 → Int32 → Option (Int32)) (hr1488 : ∀ (σ : Mem) (n : Nat) (A0 : Nat → Int32) (A1 : Nat → Int32) (A2 : Nat → Int32) (A3 : Nat → Int64) (x4 : Int32) (x13 : Int32), rl1488 σ n A0 A1 A2 A3 x4 x13 = some out → JQ Y mL_law (some σ) [] [.inl (24, A0), .inl (36, A1), .inl (6, A2), .inr (3, A3)] n 1488 (fun b => [(0, .ref (qb Y)), (1, .ref (xad (qX Y) 0)), (2, .ref (b 0)), (3, .ref (b 1)), (4, .int x4), (5, .ref (b 2)), (6, .ref (b 3)), (13, .int x13)]) (fun _ => [])) (rl1533 : Mem → Nat → (Nat → Int32) → (Nat → Int32) → (Nat → Int32) → (Nat → Int64) → Int32 → Int32 → Int32 → Int32 → Int32 → Int32 → Int32 → Int32 → Option (Int32)) (hr1533 : ∀ (σ : Mem) (n : Nat) (A0 : Nat → Int32) (A1 : Nat → Int32) (A2 : Nat → Int32) (A3 : Nat → Int64) (x4 : Int32) (x13 : Int32) (x14 : Int32) (x15 : Int32) (x16 : Int32) (x17 : Int32) (x18 : Int32) (x19 : Int32), rl1533 σ n A0 A1 A2 A3 x4 x13 x14 x15 x16 x17 x18 x19 = some out → JQ Y mL_law (some σ) [] [.inl (24, A0), .inl (36, A1), .inl (6, A2), .inr (3, A3)] n 1533 (fun b => [(0, .ref (qb Y)), (1, .ref (xad (qX Y) 0)), (2, .ref (b 0)), (3, .ref (b 1)), (4, .int x4), (5, .ref (b 2)), (6, .ref (b 3)), (13, .int x13), (14, .int x14), (15, .int x15), (16, .int x16), (17, .int x17), (18, .int x18), (19, .int x19)]) (fun _ => [])) (rl1558 : Mem → Nat → (Nat → Int32) → (Nat → Int32) → (Nat → Int32) → (Nat → Int64) → Int32 → Int32 → Int32 → Int32 → Int32 → Int32 → Int32 → Int32 → Int32 → Option (Int32)) (hr1558 : ∀ (σ : Mem) (n : Nat) (A0 : Nat → Int32) (A1 : Nat → Int32) (A2 : Nat → Int32) (A3 : Nat → Int64) (x4 : Int32) (x13 : Int32) (x14 : Int32) (x15 : Int32) (x16 : Int32) (x17 : Int32) (x18 : Int32) (x19 : Int32) (x20 : Int32), rl1558 σ n A0 A1 A2 A3 x4 x13 x14 x15 x16 x17 x18 x19 x20 = some out → JQ Y mL_law (some σ) [] [.inl (24, A0), .inl (36, A1), .inl (6, A2), .inr (3, A3)] n 1558 (fun b => [(0, .ref (qb Y)), (1, .ref (xad (qX Y) 0)), (2, .ref (b 0)), (3, .ref (b 1)), (4, .int x4), (5, .ref (b 2)), (6, .ref (b 3)), (13, .int x13), (14, .int x14), (15, .int x15), (16, .int x16), (17, .int x17), (18, .int x18), (19, .int x19), (20, .int x20)]) (fun _ => [])) (σ : Mem) (n : Nat) (A0 : Nat → Int32) (A1 : Nat → Int32) (A2 : Nat → Int32) (A3 : Nat → Int64) (x4 : Int32) (x13 : Int32) (x14 : Int32) (x15 : Int32) (x16 : Int32) (x17 : Int32) (x18 : Int32) (x19 : Int32) (x20 : Int32) (s0 : Int32) (h : FL_law_1611 (qL Y) (qs Y) rl1488 rl1533 rl1558 σ n A0 A1 A2 A3 x4 x13 x14 x15 x16 x17 x18 x19 x20 s0 = some out) : JQ Y mL_law (some σ) [] [.inl (24, A0), .inl (36, A1), .inl (6, A2), .inr (3, A3)] n 1611 (fun b => [(0, .ref (qb Y)), (1, .ref (xad (qX Y) 0)), (2, .ref (b 0)), (3, .ref (b 1)), (4, .int x4), (5, .ref (b 2)), (6, .ref (b 3)), (13, .int x13), (14, .int x14), (15, .int x15), (16, .int x16), (17, .int x17), (18, .int x18), (19, .int x19), (20, .int x20)]) (fun _ => [.int s0]) := by
  refine q_istoreV (fun b => [(21, .int s0), (0, .ref (qb Y)), (1, .ref (xad (qX Y) 0)), (2, .ref (b 0)), (3, .ref (b 1)), (4, .int x4), (5, .ref (b 2)), (6, .ref (b 3)), (13, .int x13), (14, .int x14), (15, .int x15), (16, .int x16), (17, .int x17), (18, .int x18), (19, .int x19), (20, .int x20)]) dL_law_1611 rfl (show 21 < 27 by decide) (fun _ => rfl) ?_
  refine q_iload 14 dL_law_1613 rfl (fun _ => rfl) ?_
  refine q_if_ge dL_law_1615 rfl rfl h (fun c h => ?_) (fun c h => ?_)
  · refine q_iload 15 dL_law_1622 rfl (fun _ => rfl) ?_
    refine q_iload 14 dL_law_1624 rfl (fun _ => rfl) ?_
    refine q_icmp_ne dL_law_1626 rfl rfl h (fun c h => ?_) (fun c h => ?_)
    · refine q_iconst dL_law_1633 rfl ki_2 ?_
      refine q_istoreV (fun b => [(22, .int (2 : Int32)), (21, .int s0), (0, .ref (qb Y)), (1, .ref (xad (qX Y) 0)), (2, .ref (b 0)), (3, .ref (b 1)), (4, .int x4), (5, .ref (b 2)), (6, .ref (b 3)), (13, .int x13), (14, .int x14), (15, .int x15), (16, .int x16), (17, .int x17), (18, .int x18), (19, .int x19), (20, .int x20)]) dL_law_1634 rfl (show 22 < 27 by decide) (fun _ => rfl) ?_
      refine q_iconst dL_law_1636 rfl ki_0 ?_
      refine q_istoreV (fun b => [(23, .int (0 : Int32)), (22, .int (2 : Int32)), (21, .int s0), (0, .ref (qb Y)), (1, .ref (xad (qX Y) 0)), (2, .ref (b 0)), (3, .ref (b 1)), (4, .int x4), (5, .ref (b 2)), (6, .ref (b 3)), (13, .int x13), (14, .int x14), (15, .int x15), (16, .int x16), (17, .int x17), (18, .int x18), (19, .int x19), (20, .int x20)]) dL_law_1637 rfl (show 23 < 27 by decide) (fun _ => rfl) ?_
      refine q_iconst dL_law_1639 rfl ki_0 ?_
      refine q_istoreV (fun b => [(24, .int (0 : Int32)), (23, .int (0 : Int32)), (22, .int (2 : Int32)), (21, .int s0), (0, .ref (qb Y)), (1, .ref (xad (qX Y) 0)), (2, .ref (b 0)), (3, .ref (b 1)), (4, .int x4), (5, .ref (b 2)), (6, .ref (b 3)), (13, .int x13), (14, .int x14), (15, .int x15), (16, .int x16), (17, .int x17), (18, .int x18), (19, .int x19), (20, .int x20)]) dL_law_1640 rfl (show 24 < 27 by decide) (fun _ => rfl) ?_
      refine q_sub [4, 5, 6, 7, 8, 9, 10, 11, 12, 13, 14, 15, 16, 17, 18, 3, 2, 1, 0] (fun b => [(0, .ref (qb Y)), (1, .ref (xad (qX Y) 0)), (2, .ref (b 0)), (3, .ref (b 1)), (4, .int x4), (5, .ref (b 2)), (6, .ref (b 3)), (13, .int x13), (14, .int x14), (15, .int x15), (16, .int x16), (17, .int x17), (18, .int x18), (19, .int x19), (20, .int x20), (21, .int s0), (22, .int (2 : Int32)), (23, .int (0 : Int32)), (24, .int (0 : Int32))]) (fun _ => rfl) ?_
      exact lL_law_1642 hE rl1488 hr1488 rl1533 hr1533 rl1558 hr1558 FU σ _ A0 A1 A2 A3 x4 x13 x14 x15 x16 x17 x18 x19 x20 s0 (2 : Int32) (0 : Int32) (0 : Int32) h
    · refine q_iconst dL_law_1629 rfl ki_1 ?_
      refine q_goto dL_law_1630 rfl ?_
      refine q_istoreV (fun b => [(22, .int (1 : Int32)), (21, .int s0), (0, .ref (qb Y)), (1, .ref (xad (qX Y) 0)), (2, .ref (b 0)), (3, .ref (b 1)), (4, .int x4), (5, .ref (b 2)), (6, .ref (b 3)), (13, .int x13), (14, .int x14), (15, .int x15), (16, .int x16), (17, .int x17), (18, .int x18), (19, .int x19), (20, .int x20)]) dL_law_1634 rfl (show 22 < 27 by decide) (fun _ => rfl) ?_
      refine q_iconst dL_law_1636 rfl ki_0 ?_
      refine q_istoreV (fun b => [(23, .int (0 : Int32)), (22, .int (1 : Int32)), (21, .int s0), (0, .ref (qb Y)), (1, .ref (xad (qX Y) 0)), (2, .ref (b 0)), (3, .ref (b 1)), (4, .int x4), (5, .ref (b 2)), (6, .ref (b 3)), (13, .int x13), (14, .int x14), (15, .int x15), (16, .int x16), (17, .int x17), (18, .int x18), (19, .int x19), (20, .int x20)]) dL_law_1637 rfl (show 23 < 27 by decide) (fun _ => rfl) ?_
      refine q_iconst dL_law_1639 rfl ki_0 ?_
      refine q_istoreV (fun b => [(24, .int (0 : Int32)), (23, .int (0 : Int32)), (22, .int (1 : Int32)), (21, .int s0), (0, .ref (qb Y)), (1, .ref (xad (qX Y) 0)), (2, .ref (b 0)), (3, .ref (b 1)), (4, .int x4), (5, .ref (b 2)), (6, .ref (b 3)), (13, .int x13), (14, .int x14), (15, .int x15), (16, .int x16), (17, .int x17), (18, .int x18), (19, .int x19), (20, .int x20)]) dL_law_1640 rfl (show 24 < 27 by decide) (fun _ => rfl) ?_
      refine q_sub [4, 5, 6, 7, 8, 9, 10, 11, 12, 13, 14, 15, 16, 17, 18, 3, 2, 1, 0] (fun b => [(0, .ref (qb Y)), (1, .ref (xad (qX Y) 0)), (2, .ref (b 0)), (3, .ref (b 1)), (4, .int x4), (5, .ref (b 2)), (6, .ref (b 3)), (13, .int x13), (14, .int x14), (15, .int x15), (16, .int x16), (17, .int x17), (18, .int x18), (19, .int x19), (20, .int x20), (21, .int s0), (22, .int (1 : Int32)), (23, .int (0 : Int32)), (24, .int (0 : Int32))]) (fun _ => rfl) ?_
      exact lL_law_1642 hE rl1488 hr1488 rl1533 hr1533 rl1558 hr1558 FU σ _ A0 A1 A2 A3 x4 x13 x14 x15 x16 x17 x18 x19 x20 s0 (1 : Int32) (0 : Int32) (0 : Int32) h
  · refine q_iconst dL_law_1618 rfl ki_0 ?_
    refine q_goto dL_law_1619 rfl ?_
    refine q_istoreV (fun b => [(22, .int (0 : Int32)), (21, .int s0), (0, .ref (qb Y)), (1, .ref (xad (qX Y) 0)), (2, .ref (b 0)), (3, .ref (b 1)), (4, .int x4), (5, .ref (b 2)), (6, .ref (b 3)), (13, .int x13), (14, .int x14), (15, .int x15), (16, .int x16), (17, .int x17), (18, .int x18), (19, .int x19), (20, .int x20)]) dL_law_1634 rfl (show 22 < 27 by decide) (fun _ => rfl) ?_
    refine q_iconst dL_law_1636 rfl ki_0 ?_
    refine q_istoreV (fun b => [(23, .int (0 : Int32)), (22, .int (0 : Int32)), (21, .int s0), (0, .ref (qb Y)), (1, .ref (xad (qX Y) 0)), (2, .ref (b 0)), (3, .ref (b 1)), (4, .int x4), (5, .ref (b 2)), (6, .ref (b 3)), (13, .int x13), (14, .int x14), (15, .int x15), (16, .int x16), (17, .int x17), (18, .int x18), (19, .int x19), (20, .int x20)]) dL_law_1637 rfl (show 23 < 27 by decide) (fun _ => rfl) ?_
    refine q_iconst dL_law_1639 rfl ki_0 ?_
    refine q_istoreV (fun b => [(24, .int (0 : Int32)), (23, .int (0 : Int32)), (22, .int (0 : Int32)), (21, .int s0), (0, .ref (qb Y)), (1, .ref (xad (qX Y) 0)), (2, .ref (b 0)), (3, .ref (b 1)), (4, .int x4), (5, .ref (b 2)), (6, .ref (b 3)), (13, .int x13), (14, .int x14), (15, .int x15), (16, .int x16), (17, .int x17), (18, .int x18), (19, .int x19), (20, .int x20)]) dL_law_1640 rfl (show 24 < 27 by decide) (fun _ => rfl) ?_
    refine q_sub [4, 5, 6, 7, 8, 9, 10, 11, 12, 13, 14, 15, 16, 17, 18, 3, 2, 1, 0] (fun b => [(0, .ref (qb Y)), (1, .ref (xad (qX Y) 0)), (2, .ref (b 0)), (3, .ref (b 1)), (4, .int x4), (5, .ref (b 2)), (6, .ref (b 3)), (13, .int x13), (14, .int x14), (15, .int x15), (16, .int x16), (17, .int x17), (18, .int x18), (19, .int x19), (20, .int x20), (21, .int s0), (22, .int (0 : Int32)), (23, .int (0 : Int32)), (24, .int (0 : Int32))]) (fun _ => rfl) ?_
    exact lL_law_1642 hE rl1488 hr1488 rl1533 hr1533 rl1558 hr1558 FU σ _ A0 A1 A2 A3 x4 x13 x14 x15 x16 x17 x18 x19 x20 s0 (0 : Int32) (0 : Int32) (0 : Int32) h
noncomputable def FL_law_1590 (L : Nat) (xs : Nat → Int32) (rl1488 : Mem → Nat → (Nat → Int32) → (Nat → Int32) → (Nat → Int32) → (Nat → Int64) → Int32 → Int32 → Option (Int32)) (rl1533 : Mem → Nat → (Nat → Int32) → (Nat → Int32) → (Nat → Int32) → (Nat → Int64) → Int32 → Int32 → Int32 → Int32 → Int32 → Int32 → Int32 → Int32 → Option (Int32)) (rl1558 : Mem → Nat → (Nat → Int32) → (Nat → Int32) → (Nat → Int32) → (Nat → Int64) → Int32 → Int32 → Int32 → Int32 → Int32 → Int32 → Int32 → Int32 → Int32 → Option (Int32)) (σ : Mem) (n : Nat) (A0 : Nat → Int32) (A1 : Nat → Int32) (A2 : Nat → Int32) (A3 : Nat → Int64) (x4 : Int32) (x13 : Int32) (x14 : Int32) (x15 : Int32) (x16 : Int32) (x17 : Int32) (x18 : Int32) (x19 : Int32) (x20 : Int32) : Option (Int32) :=
  if x20 < 0 then
  (FL_law_1611 L xs rl1488 rl1533 rl1558 σ n A0 A1 A2 A3 x4 x13 x14 x15 x16 x17 x18 x19 x20 (1 : Int32))
  else
  (bz (FL_free A1 A2 x20) fun o226 =>
  if o226 = 0 then
  (FL_law_1611 L xs rl1488 rl1533 rl1558 σ n A0 A1 A2 A3 x4 x13 x14 x15 x16 x17 x18 x19 x20 (0 : Int32))
  else
  (FL_law_1611 L xs rl1488 rl1533 rl1558 σ n A0 A1 A2 A3 x4 x13 x14 x15 x16 x17 x18 x19 x20 (1 : Int32)))
set_option maxHeartbeats 4000000 in
set_option maxRecDepth 100000 in
theorem jL_law_1590 {Y : QX} {out : Int32} (hE : ∀ σ2 : Mem, EndQ Y mL_law .ireturn [] (some σ2) [] (fun _ => [.int out])) (rl1488 : Mem → Nat → (Nat → Int32) → (Nat → Int32) → (Nat → Int32) → (Nat → Int64) → Int32 → Int32 → Option (Int32)) (hr1488 : ∀ (σ : Mem) (n : Nat) (A0 : Nat → Int32) (A1 : Nat → Int32) (A2 : Nat → Int32) (A3 : Nat → Int64) (x4 : Int32) (x13 : Int32), rl1488 σ n A0 A1 A2 A3 x4 x13 = some out → JQ Y mL_law (some σ) [] [.inl (24, A0), .inl (36, A1), .inl (6, A2), .inr (3, A3)] n 1488 (fun b => [(0, .ref (qb Y)), (1, .ref (xad (qX Y) 0)), (2, .ref (b 0)), (3, .ref (b 1)), (4, .int x4), (5, .ref (b 2)), (6, .ref (b 3)), (13, .int x13)]) (fun _ => [])) (rl1533 : Mem → Nat → (Nat → Int32) → (Nat → Int32) → (Nat → Int32) → (Nat → Int64) → Int32 → Int32 → Int32 → Int32 → Int32 → Int32 → Int32 → Int32 → Option (Int32)) (hr1533 : ∀ (σ : Mem) (n : Nat) (A0 : Nat → Int32) (A1 : Nat → Int32) (A2 : Nat → Int32) (A3 : Nat → Int64) (x4 : Int32) (x13 : Int32) (x14 : Int32) (x15 : Int32) (x16 : Int32) (x17 : Int32) (x18 : Int32) (x19 : Int32), rl1533 σ n A0 A1 A2 A3 x4 x13 x14 x15 x16 x17 x18 x19 = some out → JQ Y mL_law (some σ) [] [.inl (24, A0), .inl (36, A1), .inl (6, A2), .inr (3, A3)] n 1533 (fun b => [(0, .ref (qb Y)), (1, .ref (xad (qX Y) 0)), (2, .ref (b 0)), (3, .ref (b 1)), (4, .int x4), (5, .ref (b 2)), (6, .ref (b 3)), (13, .int x13), (14, .int x14), (15, .int x15), (16, .int x16), (17, .int x17), (18, .int x18), (19, .int x19)]) (fun _ => [])) (rl1558 : Mem → Nat → (Nat → Int32) → (Nat → Int32) → (Nat → Int32) → (Nat → Int64) → Int32 → Int32 → Int32 → Int32 → Int32 → Int32 → Int32 → Int32 → Int32 → Option (Int32)) (hr1558 : ∀ (σ : Mem) (n : Nat) (A0 : Nat → Int32) (A1 : Nat → Int32) (A2 : Nat → Int32) (A3 : Nat → Int64) (x4 : Int32) (x13 : Int32) (x14 : Int32) (x15 : Int32) (x16 : Int32) (x17 : Int32) (x18 : Int32) (x19 : Int32) (x20 : Int32), rl1558 σ n A0 A1 A2 A3 x4 x13 x14 x15 x16 x17 x18 x19 x20 = some out → JQ Y mL_law (some σ) [] [.inl (24, A0), .inl (36, A1), .inl (6, A2), .inr (3, A3)] n 1558 (fun b => [(0, .ref (qb Y)), (1, .ref (xad (qX Y) 0)), (2, .ref (b 0)), (3, .ref (b 1)), (4, .int x4), (5, .ref (b 2)), (6, .ref (b 3)), (13, .int x13), (14, .int x14), (15, .int x15), (16, .int x16), (17, .int x17), (18, .int x18), (19, .int x19), (20, .int x20)]) (fun _ => [])) (σ : Mem) (n : Nat) (A0 : Nat → Int32) (A1 : Nat → Int32) (A2 : Nat → Int32) (A3 : Nat → Int64) (x4 : Int32) (x13 : Int32) (x14 : Int32) (x15 : Int32) (x16 : Int32) (x17 : Int32) (x18 : Int32) (x19 : Int32) (x20 : Int32) (h : FL_law_1590 (qL Y) (qs Y) rl1488 rl1533 rl1558 σ n A0 A1 A2 A3 x4 x13 x14 x15 x16 x17 x18 x19 x20 = some out) : JQ Y mL_law (some σ) [] [.inl (24, A0), .inl (36, A1), .inl (6, A2), .inr (3, A3)] n 1590 (fun b => [(0, .ref (qb Y)), (1, .ref (xad (qX Y) 0)), (2, .ref (b 0)), (3, .ref (b 1)), (4, .int x4), (5, .ref (b 2)), (6, .ref (b 3)), (13, .int x13), (14, .int x14), (15, .int x15), (16, .int x16), (17, .int x17), (18, .int x18), (19, .int x19), (20, .int x20)]) (fun _ => []) := by
  refine q_iload 14 dL_law_1590 rfl (fun _ => rfl) ?_
  refine q_if_lt dL_law_1592 rfl rfl h (fun c h => ?_) (fun c h => ?_)
  · refine q_iconst dL_law_1606 rfl ki_1 ?_
    refine q_goto dL_law_1607 rfl ?_
    exact jL_law_1611 hE rl1488 hr1488 rl1533 hr1533 rl1558 hr1558 σ _ A0 A1 A2 A3 x4 x13 x14 x15 x16 x17 x18 x19 x20 (1 : Int32) h
  · refine q_aload_n 3 (fun b => b 1) dL_law_1595 rfl rfl (fun _ => rfl) ?_
    refine q_aload 5 (fun b => b 2) dL_law_1596 rfl (fun _ => rfl) ?_
    refine q_iload 14 dL_law_1598 rfl (fun _ => rfl) ?_
    refine q_pick [0, 3, 1, 2] [.inl (24, A0), .inr (3, A3), .inl (36, A1), .inl (6, A2)] [] (fun b => [(0, .ref (qb Y)), (1, .ref (xad (qX Y) 0)), (2, .ref (b 0)), (3, .ref (b 2)), (4, .int x4), (5, .ref (b 3)), (6, .ref (b 1)), (13, .int x13), (14, .int x14), (15, .int x15), (16, .int x16), (17, .int x17), (18, .int x18), (19, .int x19), (20, .int x20)]) (fun b => [.int x20, .ref (b 3), .ref (b 2)]) rfl rfl (by decide) rfl (fun _ => rfl) (fun _ => rfl) ?_
    obtain ⟨o226, hc, hz, h⟩ := bz_of h
    refine q_call [.inl (24, A0), .inr (3, A3)] 2 (fun b => [.ref (b 2), .ref (b 3), .int x20]) (fun _ => []) (coL_free A1 A2 x20 o226 hc hz) rfl rfl rfl ms_RL_77 (by decide) (Or.inl rfl) (fun _ => rfl) (fun _ => rfl) (fun _ => rfl) (fun _ => Nat.le_of_ble_eq_true rfl) dL_law_1600 rfl ?_
    show JQ Y mL_law (some σ) [] [.inl (24, A0), .inr (3, A3), .inl (36, A1), .inl (6, A2)] _ 1603 (fun b => [(0, .ref (qb Y)), (1, .ref (xad (qX Y) 0)), (2, .ref (b 0)), (3, .ref (b 2)), (4, .int x4), (5, .ref (b 3)), (6, .ref (b 1)), (13, .int x13), (14, .int x14), (15, .int x15), (16, .int x16), (17, .int x17), (18, .int x18), (19, .int x19), (20, .int x20)]) (fun _ => [.int o226])
    refine q_if_eq dL_law_1603 rfl rfl h (fun c h => ?_) (fun c h => ?_)
    · refine q_iconst dL_law_1610 rfl ki_0 ?_
      refine q_pick [0, 2, 3, 1] [.inl (24, A0), .inl (36, A1), .inl (6, A2), .inr (3, A3)] [] (fun b => [(0, .ref (qb Y)), (1, .ref (xad (qX Y) 0)), (2, .ref (b 0)), (3, .ref (b 1)), (4, .int x4), (5, .ref (b 2)), (6, .ref (b 3)), (13, .int x13), (14, .int x14), (15, .int x15), (16, .int x16), (17, .int x17), (18, .int x18), (19, .int x19), (20, .int x20)]) (fun _ => [.int (0 : Int32)]) rfl rfl (by decide) rfl (fun _ => rfl) (fun _ => rfl) ?_
      exact jL_law_1611 hE rl1488 hr1488 rl1533 hr1533 rl1558 hr1558 σ _ A0 A1 A2 A3 x4 x13 x14 x15 x16 x17 x18 x19 x20 (0 : Int32) h
    · refine q_iconst dL_law_1606 rfl ki_1 ?_
      refine q_goto dL_law_1607 rfl ?_
      refine q_pick [0, 2, 3, 1] [.inl (24, A0), .inl (36, A1), .inl (6, A2), .inr (3, A3)] [] (fun b => [(0, .ref (qb Y)), (1, .ref (xad (qX Y) 0)), (2, .ref (b 0)), (3, .ref (b 1)), (4, .int x4), (5, .ref (b 2)), (6, .ref (b 3)), (13, .int x13), (14, .int x14), (15, .int x15), (16, .int x16), (17, .int x17), (18, .int x18), (19, .int x19), (20, .int x20)]) (fun _ => [.int (1 : Int32)]) rfl rfl (by decide) rfl (fun _ => rfl) (fun _ => rfl) ?_
      exact jL_law_1611 hE rl1488 hr1488 rl1533 hr1533 rl1558 hr1558 σ _ A0 A1 A2 A3 x4 x13 x14 x15 x16 x17 x18 x19 x20 (1 : Int32) h
