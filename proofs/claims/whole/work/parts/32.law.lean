theorem d_La_law_2082 : decode code 2082 = .ok (.aload_n 1, 1) := by decide +kernel
theorem d_La_law_2083 : decode code 2083 = .ok (.invokevirtual 147, 3) := by decide +kernel
theorem d_La_law_2086 : decode code 2086 = .ok (.aload_n 2, 1) := by decide +kernel
theorem d_La_law_2087 : decode code 2087 = .ok (.invokevirtual 151, 3) := by decide +kernel
theorem d_La_law_2090 : decode code 2090 = .ok (.if_icmp .eq 596, 3) := by decide +kernel
theorem d_La_law_2093 : decode code 2093 = .ok (.iconst 0, 1) := by decide +kernel
theorem d_La_law_2094 : decode code 2094 = .ok (.ireturn, 1) := by decide +kernel
def B_La_law_2082 (L : Nat) (xs : Nat → Int32) (k18 : Int32 → Sto → Option (Bool × Sto)) (v3 : Int32) (σ : Sto) : Option (Bool × Sto) :=
  ((f_FR_text  σ).bind fun q59 => ((f_Mo_text  q59.2).bind fun q60 => (if q59.1 = q60.1 then B_La_law_2686 L xs k18 v3 q60.2
 else some (false, q60.2))))
set_option maxHeartbeats 4000000 in
set_option maxRecDepth 100000 in
theorem vB_La_law_2082 {X : Xt} {E : En} {L : Nat} {xs : Nat → Int32} (hX : SX X E L xs) (g : GG X E 200 code R_La 4) {k18 : Int32 → Sto → Option (Bool × Sto)} (hk18 : ∀ (v3 : Int32) (σ : Sto), VV X E code 4 eB 18 [(0, .ref (E.2.1 999)), (1, .ref (E.2.1 0)), (2, .ref (E.2.1 48)), (3, .int v3)] [] σ (k18 v3 σ)) (v3 : Int32) (σ : Sto) : VV X E code 4 eB 2082 [(0, .ref (E.2.1 999)), (1, .ref (E.2.1 0)), (2, .ref (E.2.1 48)), (3, .int v3)] [] σ (B_La_law_2082 L xs k18 v3 σ) := by
  unfold B_La_law_2082
  refine v_aload_n 1 g d_La_law_2082 rfl ?_
  refine v_callI (r_V (rest := []) [] g (m1 826 (by decide +kernel) (by decide +kernel)) yv_FR_text rfl (fun r σ1 h => sp_FR_text g.2.2.1  h) rfl rfl (by decide) (Nat.le_of_ble_eq_true rfl) d_La_law_2083) (fun q59 => ?_)
  refine v_aload_n 2 g d_La_law_2086 rfl ?_
  refine v_callI (r_V (rest := [.int q59.1]) [] g (m1 1442 (by decide +kernel) (by decide +kernel)) yv_Mo_text rfl (fun r σ1 h => sp_Mo_text g.2.2.1  h) rfl rfl (by decide) (Nat.le_of_ble_eq_true rfl) d_La_law_2087) (fun q60 => ?_)
  refine v_icmp_eq 2686 g d_La_law_2090 (by decide) (fun _ => ?_) (fun _ => ?_)
  · exact v_sub [0,1,2,3] rfl (vB_La_law_2686 hX g hk18 v3 q60.2)
  · refine v_iconst (v := (0 : Int32)) g d_La_law_2093 (by decide +kernel) ?_
    exact v_ret d_La_law_2094 rfl
theorem d_La_law_2095 : decode code 2095 = .ok (.aload_n 1, 1) := by decide +kernel
theorem d_La_law_2096 : decode code 2096 = .ok (.aload_n 0, 1) := by decide +kernel
theorem d_La_law_2097 : decode code 2097 = .ok (.iload_n 3, 1) := by decide +kernel
theorem d_La_law_2098 : decode code 2098 = .ok (.iconst 1, 1) := by decide +kernel
theorem d_La_law_2099 : decode code 2099 = .ok (.iadd, 1) := by decide +kernel
theorem d_La_law_2100 : decode code 2100 = .ok (.iaload, 1) := by decide +kernel
theorem d_La_law_2101 : decode code 2101 = .ok (.aload_n 0, 1) := by decide +kernel
theorem d_La_law_2102 : decode code 2102 = .ok (.iload_n 3, 1) := by decide +kernel
theorem d_La_law_2103 : decode code 2103 = .ok (.iconst 2, 1) := by decide +kernel
theorem d_La_law_2104 : decode code 2104 = .ok (.iadd, 1) := by decide +kernel
theorem d_La_law_2105 : decode code 2105 = .ok (.iaload, 1) := by decide +kernel
theorem d_La_law_2106 : decode code 2106 = .ok (.aload_n 0, 1) := by decide +kernel
theorem d_La_law_2107 : decode code 2107 = .ok (.iload_n 3, 1) := by decide +kernel
theorem d_La_law_2108 : decode code 2108 = .ok (.iconst 3, 1) := by decide +kernel
theorem d_La_law_2109 : decode code 2109 = .ok (.iadd, 1) := by decide +kernel
theorem d_La_law_2110 : decode code 2110 = .ok (.iaload, 1) := by decide +kernel
theorem d_La_law_2111 : decode code 2111 = .ok (.invokevirtual 152, 3) := by decide +kernel
theorem d_La_law_2114 : decode code 2114 = .ok (.aload_n 2, 1) := by decide +kernel
theorem d_La_law_2115 : decode code 2115 = .ok (.aload_n 0, 1) := by decide +kernel
theorem d_La_law_2116 : decode code 2116 = .ok (.iload_n 3, 1) := by decide +kernel
theorem d_La_law_2117 : decode code 2117 = .ok (.iconst 1, 1) := by decide +kernel
theorem d_La_law_2118 : decode code 2118 = .ok (.iadd, 1) := by decide +kernel
theorem d_La_law_2119 : decode code 2119 = .ok (.iaload, 1) := by decide +kernel
theorem d_La_law_2120 : decode code 2120 = .ok (.aload_n 0, 1) := by decide +kernel
theorem d_La_law_2121 : decode code 2121 = .ok (.iload_n 3, 1) := by decide +kernel
theorem d_La_law_2122 : decode code 2122 = .ok (.iconst 2, 1) := by decide +kernel
theorem d_La_law_2123 : decode code 2123 = .ok (.iadd, 1) := by decide +kernel
theorem d_La_law_2124 : decode code 2124 = .ok (.iaload, 1) := by decide +kernel
theorem d_La_law_2125 : decode code 2125 = .ok (.aload_n 0, 1) := by decide +kernel
theorem d_La_law_2126 : decode code 2126 = .ok (.iload_n 3, 1) := by decide +kernel
theorem d_La_law_2127 : decode code 2127 = .ok (.iconst 3, 1) := by decide +kernel
theorem d_La_law_2128 : decode code 2128 = .ok (.iadd, 1) := by decide +kernel
theorem d_La_law_2129 : decode code 2129 = .ok (.iaload, 1) := by decide +kernel
theorem d_La_law_2130 : decode code 2130 = .ok (.invokevirtual 155, 3) := by decide +kernel
theorem d_La_law_2133 : decode code 2133 = .ok (.if_icmp .eq 553, 3) := by decide +kernel
theorem d_La_law_2136 : decode code 2136 = .ok (.iconst 0, 1) := by decide +kernel
theorem d_La_law_2137 : decode code 2137 = .ok (.ireturn, 1) := by decide +kernel
def B_La_law_2095 (L : Nat) (xs : Nat → Int32) (k18 : Int32 → Sto → Option (Bool × Sto)) (v3 : Int32) (σ : Sto) : Option (Bool × Sto) :=
  (if inb (v3 + (1 : Int32)) L = true then (if inb (v3 + (2 : Int32)) L = true then (if inb (v3 + (3 : Int32)) L = true then ((f_FR_deal (xs (Int32.toNatClampNeg (v3 + (1 : Int32)))) (xs (Int32.toNatClampNeg (v3 + (2 : Int32)))) (xs (Int32.toNatClampNeg (v3 + (3 : Int32)))) σ).bind fun q61 => (if inb (v3 + (1 : Int32)) L = true then (if inb (v3 + (2 : Int32)) L = true then (if inb (v3 + (3 : Int32)) L = true then ((f_Mo_deal (xs (Int32.toNatClampNeg (v3 + (1 : Int32)))) (xs (Int32.toNatClampNeg (v3 + (2 : Int32)))) (xs (Int32.toNatClampNeg (v3 + (3 : Int32)))) q61.2).bind fun q62 => (if q61.1 = q62.1 then B_La_law_2686 L xs k18 v3 q62.2
 else some (false, q62.2))) else none) else none) else none)) else none) else none) else none)
set_option maxHeartbeats 4000000 in
set_option maxRecDepth 100000 in
theorem vB_La_law_2095 {X : Xt} {E : En} {L : Nat} {xs : Nat → Int32} (hX : SX X E L xs) (g : GG X E 200 code R_La 4) {k18 : Int32 → Sto → Option (Bool × Sto)} (hk18 : ∀ (v3 : Int32) (σ : Sto), VV X E code 4 eB 18 [(0, .ref (E.2.1 999)), (1, .ref (E.2.1 0)), (2, .ref (E.2.1 48)), (3, .int v3)] [] σ (k18 v3 σ)) (v3 : Int32) (σ : Sto) : VV X E code 4 eB 2095 [(0, .ref (E.2.1 999)), (1, .ref (E.2.1 0)), (2, .ref (E.2.1 48)), (3, .int v3)] [] σ (B_La_law_2095 L xs k18 v3 σ) := by
  unfold B_La_law_2095
  refine v_aload_n 1 g d_La_law_2095 rfl ?_
  refine v_aload_n 0 g d_La_law_2096 rfl ?_
  refine v_iload_n 3 g d_La_law_2097 rfl ?_
  refine v_iconst (v := (1 : Int32)) g d_La_law_2098 (by decide +kernel) ?_
  refine v_iadd g d_La_law_2099 ?_
  refine v_sld hX g d_La_law_2100 (fun _ => ?_)
  refine v_aload_n 0 g d_La_law_2101 rfl ?_
  refine v_iload_n 3 g d_La_law_2102 rfl ?_
  refine v_iconst (v := (2 : Int32)) g d_La_law_2103 (by decide +kernel) ?_
  refine v_iadd g d_La_law_2104 ?_
  refine v_sld hX g d_La_law_2105 (fun _ => ?_)
  refine v_aload_n 0 g d_La_law_2106 rfl ?_
  refine v_iload_n 3 g d_La_law_2107 rfl ?_
  refine v_iconst (v := (3 : Int32)) g d_La_law_2108 (by decide +kernel) ?_
  refine v_iadd g d_La_law_2109 ?_
  refine v_sld hX g d_La_law_2110 (fun _ => ?_)
  refine v_callI (r_V (rest := []) [.int (xs (Int32.toNatClampNeg (v3 + (1 : Int32)))), .int (xs (Int32.toNatClampNeg (v3 + (2 : Int32)))), .int (xs (Int32.toNatClampNeg (v3 + (3 : Int32))))] g (m1 949 (by decide +kernel) (by decide +kernel)) yv_FR_deal rfl (fun r σ1 h => sp_FR_deal g.2.2.1  h) rfl rfl (by decide) (Nat.le_of_ble_eq_true rfl) d_La_law_2111) (fun q61 => ?_)
  refine v_aload_n 2 g d_La_law_2114 rfl ?_
  refine v_aload_n 0 g d_La_law_2115 rfl ?_
  refine v_iload_n 3 g d_La_law_2116 rfl ?_
  refine v_iconst (v := (1 : Int32)) g d_La_law_2117 (by decide +kernel) ?_
  refine v_iadd g d_La_law_2118 ?_
  refine v_sld hX g d_La_law_2119 (fun _ => ?_)
  refine v_aload_n 0 g d_La_law_2120 rfl ?_
  refine v_iload_n 3 g d_La_law_2121 rfl ?_
  refine v_iconst (v := (2 : Int32)) g d_La_law_2122 (by decide +kernel) ?_
  refine v_iadd g d_La_law_2123 ?_
  refine v_sld hX g d_La_law_2124 (fun _ => ?_)
  refine v_aload_n 0 g d_La_law_2125 rfl ?_
  refine v_iload_n 3 g d_La_law_2126 rfl ?_
  refine v_iconst (v := (3 : Int32)) g d_La_law_2127 (by decide +kernel) ?_
  refine v_iadd g d_La_law_2128 ?_
  refine v_sld hX g d_La_law_2129 (fun _ => ?_)
  refine v_callI (r_V (rest := [.int q61.1]) [.int (xs (Int32.toNatClampNeg (v3 + (1 : Int32)))), .int (xs (Int32.toNatClampNeg (v3 + (2 : Int32)))), .int (xs (Int32.toNatClampNeg (v3 + (3 : Int32))))] g (m1 1489 (by decide +kernel) (by decide +kernel)) yv_Mo_deal rfl (fun r σ1 h => sp_Mo_deal g.2.2.1  h) rfl rfl (by decide) (Nat.le_of_ble_eq_true rfl) d_La_law_2130) (fun q62 => ?_)
  refine v_icmp_eq 2686 g d_La_law_2133 (by decide) (fun _ => ?_) (fun _ => ?_)
  · exact v_sub [0,1,2,3] rfl (vB_La_law_2686 hX g hk18 v3 q62.2)
  · refine v_iconst (v := (0 : Int32)) g d_La_law_2136 (by decide +kernel) ?_
    exact v_ret d_La_law_2137 rfl
theorem d_La_law_2138 : decode code 2138 = .ok (.aload_n 1, 1) := by decide +kernel
theorem d_La_law_2139 : decode code 2139 = .ok (.aload_n 0, 1) := by decide +kernel
theorem d_La_law_2140 : decode code 2140 = .ok (.iload_n 3, 1) := by decide +kernel
theorem d_La_law_2141 : decode code 2141 = .ok (.iconst 1, 1) := by decide +kernel
theorem d_La_law_2142 : decode code 2142 = .ok (.iadd, 1) := by decide +kernel
theorem d_La_law_2143 : decode code 2143 = .ok (.iaload, 1) := by decide +kernel
theorem d_La_law_2144 : decode code 2144 = .ok (.aload_n 0, 1) := by decide +kernel
theorem d_La_law_2145 : decode code 2145 = .ok (.iload_n 3, 1) := by decide +kernel
theorem d_La_law_2146 : decode code 2146 = .ok (.iconst 2, 1) := by decide +kernel
theorem d_La_law_2147 : decode code 2147 = .ok (.iadd, 1) := by decide +kernel
theorem d_La_law_2148 : decode code 2148 = .ok (.iaload, 1) := by decide +kernel
theorem d_La_law_2149 : decode code 2149 = .ok (.aload_n 0, 1) := by decide +kernel
theorem d_La_law_2150 : decode code 2150 = .ok (.iload_n 3, 1) := by decide +kernel
theorem d_La_law_2151 : decode code 2151 = .ok (.iconst 3, 1) := by decide +kernel
theorem d_La_law_2152 : decode code 2152 = .ok (.iadd, 1) := by decide +kernel
theorem d_La_law_2153 : decode code 2153 = .ok (.iaload, 1) := by decide +kernel
theorem d_La_law_2154 : decode code 2154 = .ok (.aload_n 0, 1) := by decide +kernel
theorem d_La_law_2155 : decode code 2155 = .ok (.iload_n 3, 1) := by decide +kernel
theorem d_La_law_2156 : decode code 2156 = .ok (.iconst 4, 1) := by decide +kernel
theorem d_La_law_2157 : decode code 2157 = .ok (.iadd, 1) := by decide +kernel
theorem d_La_law_2158 : decode code 2158 = .ok (.iaload, 1) := by decide +kernel
theorem d_La_law_2159 : decode code 2159 = .ok (.aload_n 0, 1) := by decide +kernel
theorem d_La_law_2160 : decode code 2160 = .ok (.iload_n 3, 1) := by decide +kernel
theorem d_La_law_2161 : decode code 2161 = .ok (.iconst 5, 1) := by decide +kernel
theorem d_La_law_2162 : decode code 2162 = .ok (.iadd, 1) := by decide +kernel
theorem d_La_law_2163 : decode code 2163 = .ok (.iaload, 1) := by decide +kernel
theorem d_La_law_2164 : decode code 2164 = .ok (.invokevirtual 156, 3) := by decide +kernel
theorem d_La_law_2167 : decode code 2167 = .ok (.aload_n 2, 1) := by decide +kernel
theorem d_La_law_2168 : decode code 2168 = .ok (.aload_n 0, 1) := by decide +kernel
theorem d_La_law_2169 : decode code 2169 = .ok (.iload_n 3, 1) := by decide +kernel
theorem d_La_law_2170 : decode code 2170 = .ok (.iconst 1, 1) := by decide +kernel
theorem d_La_law_2171 : decode code 2171 = .ok (.iadd, 1) := by decide +kernel
theorem d_La_law_2172 : decode code 2172 = .ok (.iaload, 1) := by decide +kernel
theorem d_La_law_2173 : decode code 2173 = .ok (.aload_n 0, 1) := by decide +kernel
theorem d_La_law_2174 : decode code 2174 = .ok (.iload_n 3, 1) := by decide +kernel
theorem d_La_law_2175 : decode code 2175 = .ok (.iconst 2, 1) := by decide +kernel
theorem d_La_law_2176 : decode code 2176 = .ok (.iadd, 1) := by decide +kernel
theorem d_La_law_2177 : decode code 2177 = .ok (.iaload, 1) := by decide +kernel
theorem d_La_law_2178 : decode code 2178 = .ok (.aload_n 0, 1) := by decide +kernel
theorem d_La_law_2179 : decode code 2179 = .ok (.iload_n 3, 1) := by decide +kernel
theorem d_La_law_2180 : decode code 2180 = .ok (.iconst 3, 1) := by decide +kernel
theorem d_La_law_2181 : decode code 2181 = .ok (.iadd, 1) := by decide +kernel
theorem d_La_law_2182 : decode code 2182 = .ok (.iaload, 1) := by decide +kernel
theorem d_La_law_2183 : decode code 2183 = .ok (.aload_n 0, 1) := by decide +kernel
theorem d_La_law_2184 : decode code 2184 = .ok (.iload_n 3, 1) := by decide +kernel
theorem d_La_law_2185 : decode code 2185 = .ok (.iconst 4, 1) := by decide +kernel
theorem d_La_law_2186 : decode code 2186 = .ok (.iadd, 1) := by decide +kernel
theorem d_La_law_2187 : decode code 2187 = .ok (.iaload, 1) := by decide +kernel
theorem d_La_law_2188 : decode code 2188 = .ok (.aload_n 0, 1) := by decide +kernel
theorem d_La_law_2189 : decode code 2189 = .ok (.iload_n 3, 1) := by decide +kernel
theorem d_La_law_2190 : decode code 2190 = .ok (.iconst 5, 1) := by decide +kernel
theorem d_La_law_2191 : decode code 2191 = .ok (.iadd, 1) := by decide +kernel
theorem d_La_law_2192 : decode code 2192 = .ok (.iaload, 1) := by decide +kernel
theorem d_La_law_2193 : decode code 2193 = .ok (.invokevirtual 160, 3) := by decide +kernel
theorem d_La_law_2196 : decode code 2196 = .ok (.lcmp, 1) := by decide +kernel
theorem d_La_law_2197 : decode code 2197 = .ok (.ifCond .eq 489, 3) := by decide +kernel
theorem d_La_law_2200 : decode code 2200 = .ok (.iconst 0, 1) := by decide +kernel
theorem d_La_law_2201 : decode code 2201 = .ok (.ireturn, 1) := by decide +kernel
def B_La_law_2138 (L : Nat) (xs : Nat → Int32) (k18 : Int32 → Sto → Option (Bool × Sto)) (v3 : Int32) (σ : Sto) : Option (Bool × Sto) :=
  (if inb (v3 + (1 : Int32)) L = true then (if inb (v3 + (2 : Int32)) L = true then (if inb (v3 + (3 : Int32)) L = true then (if inb (v3 + (4 : Int32)) L = true then (if inb (v3 + (5 : Int32)) L = true then ((f_FR_mean (xs (Int32.toNatClampNeg (v3 + (1 : Int32)))) (xs (Int32.toNatClampNeg (v3 + (2 : Int32)))) (xs (Int32.toNatClampNeg (v3 + (3 : Int32)))) (xs (Int32.toNatClampNeg (v3 + (4 : Int32)))) (xs (Int32.toNatClampNeg (v3 + (5 : Int32)))) σ).bind fun q63 => (if inb (v3 + (1 : Int32)) L = true then (if inb (v3 + (2 : Int32)) L = true then (if inb (v3 + (3 : Int32)) L = true then (if inb (v3 + (4 : Int32)) L = true then (if inb (v3 + (5 : Int32)) L = true then ((f_Mo_mean (xs (Int32.toNatClampNeg (v3 + (1 : Int32)))) (xs (Int32.toNatClampNeg (v3 + (2 : Int32)))) (xs (Int32.toNatClampNeg (v3 + (3 : Int32)))) (xs (Int32.toNatClampNeg (v3 + (4 : Int32)))) (xs (Int32.toNatClampNeg (v3 + (5 : Int32)))) q63.2).bind fun q64 => (if q63.1 = q64.1 then B_La_law_2686 L xs k18 v3 q64.2
 else some (false, q64.2))) else none) else none) else none) else none) else none)) else none) else none) else none) else none) else none)
set_option maxHeartbeats 4000000 in
set_option maxRecDepth 100000 in
theorem vB_La_law_2138 {X : Xt} {E : En} {L : Nat} {xs : Nat → Int32} (hX : SX X E L xs) (g : GG X E 200 code R_La 4) {k18 : Int32 → Sto → Option (Bool × Sto)} (hk18 : ∀ (v3 : Int32) (σ : Sto), VV X E code 4 eB 18 [(0, .ref (E.2.1 999)), (1, .ref (E.2.1 0)), (2, .ref (E.2.1 48)), (3, .int v3)] [] σ (k18 v3 σ)) (v3 : Int32) (σ : Sto) : VV X E code 4 eB 2138 [(0, .ref (E.2.1 999)), (1, .ref (E.2.1 0)), (2, .ref (E.2.1 48)), (3, .int v3)] [] σ (B_La_law_2138 L xs k18 v3 σ) := by
  unfold B_La_law_2138
  refine v_aload_n 1 g d_La_law_2138 rfl ?_
  refine v_aload_n 0 g d_La_law_2139 rfl ?_
  refine v_iload_n 3 g d_La_law_2140 rfl ?_
  refine v_iconst (v := (1 : Int32)) g d_La_law_2141 (by decide +kernel) ?_
  refine v_iadd g d_La_law_2142 ?_
  refine v_sld hX g d_La_law_2143 (fun _ => ?_)
  refine v_aload_n 0 g d_La_law_2144 rfl ?_
  refine v_iload_n 3 g d_La_law_2145 rfl ?_
  refine v_iconst (v := (2 : Int32)) g d_La_law_2146 (by decide +kernel) ?_
  refine v_iadd g d_La_law_2147 ?_
  refine v_sld hX g d_La_law_2148 (fun _ => ?_)
  refine v_aload_n 0 g d_La_law_2149 rfl ?_
  refine v_iload_n 3 g d_La_law_2150 rfl ?_
  refine v_iconst (v := (3 : Int32)) g d_La_law_2151 (by decide +kernel) ?_
  refine v_iadd g d_La_law_2152 ?_
  refine v_sld hX g d_La_law_2153 (fun _ => ?_)
  refine v_aload_n 0 g d_La_law_2154 rfl ?_
  refine v_iload_n 3 g d_La_law_2155 rfl ?_
  refine v_iconst (v := (4 : Int32)) g d_La_law_2156 (by decide +kernel) ?_
  refine v_iadd g d_La_law_2157 ?_
  refine v_sld hX g d_La_law_2158 (fun _ => ?_)
  refine v_aload_n 0 g d_La_law_2159 rfl ?_
  refine v_iload_n 3 g d_La_law_2160 rfl ?_
  refine v_iconst (v := (5 : Int32)) g d_La_law_2161 (by decide +kernel) ?_
  refine v_iadd g d_La_law_2162 ?_
  refine v_sld hX g d_La_law_2163 (fun _ => ?_)
  refine v_callL (r_V (rest := []) [.int (xs (Int32.toNatClampNeg (v3 + (1 : Int32)))), .int (xs (Int32.toNatClampNeg (v3 + (2 : Int32)))), .int (xs (Int32.toNatClampNeg (v3 + (3 : Int32)))), .int (xs (Int32.toNatClampNeg (v3 + (4 : Int32)))), .int (xs (Int32.toNatClampNeg (v3 + (5 : Int32))))] g (m1 967 (by decide +kernel) (by decide +kernel)) yv_FR_mean rfl (fun r σ1 h => sp_FR_mean g.2.2.1  h) rfl rfl (by decide) (Nat.le_of_ble_eq_true rfl) d_La_law_2164) (fun q63 => ?_)
  refine v_aload_n 2 g d_La_law_2167 rfl ?_
  refine v_aload_n 0 g d_La_law_2168 rfl ?_
  refine v_iload_n 3 g d_La_law_2169 rfl ?_
  refine v_iconst (v := (1 : Int32)) g d_La_law_2170 (by decide +kernel) ?_
  refine v_iadd g d_La_law_2171 ?_
  refine v_sld hX g d_La_law_2172 (fun _ => ?_)
  refine v_aload_n 0 g d_La_law_2173 rfl ?_
  refine v_iload_n 3 g d_La_law_2174 rfl ?_
  refine v_iconst (v := (2 : Int32)) g d_La_law_2175 (by decide +kernel) ?_
  refine v_iadd g d_La_law_2176 ?_
  refine v_sld hX g d_La_law_2177 (fun _ => ?_)
  refine v_aload_n 0 g d_La_law_2178 rfl ?_
  refine v_iload_n 3 g d_La_law_2179 rfl ?_
  refine v_iconst (v := (3 : Int32)) g d_La_law_2180 (by decide +kernel) ?_
  refine v_iadd g d_La_law_2181 ?_
  refine v_sld hX g d_La_law_2182 (fun _ => ?_)
  refine v_aload_n 0 g d_La_law_2183 rfl ?_
  refine v_iload_n 3 g d_La_law_2184 rfl ?_
  refine v_iconst (v := (4 : Int32)) g d_La_law_2185 (by decide +kernel) ?_
  refine v_iadd g d_La_law_2186 ?_
  refine v_sld hX g d_La_law_2187 (fun _ => ?_)
  refine v_aload_n 0 g d_La_law_2188 rfl ?_
  refine v_iload_n 3 g d_La_law_2189 rfl ?_
  refine v_iconst (v := (5 : Int32)) g d_La_law_2190 (by decide +kernel) ?_
  refine v_iadd g d_La_law_2191 ?_
  refine v_sld hX g d_La_law_2192 (fun _ => ?_)
  refine v_callL (r_V (rest := [.long q63.1]) [.int (xs (Int32.toNatClampNeg (v3 + (1 : Int32)))), .int (xs (Int32.toNatClampNeg (v3 + (2 : Int32)))), .int (xs (Int32.toNatClampNeg (v3 + (3 : Int32)))), .int (xs (Int32.toNatClampNeg (v3 + (4 : Int32)))), .int (xs (Int32.toNatClampNeg (v3 + (5 : Int32))))] g (m1 1504 (by decide +kernel) (by decide +kernel)) yv_Mo_mean rfl (fun r σ1 h => sp_Mo_mean g.2.2.1  h) rfl rfl (by decide) (Nat.le_of_ble_eq_true rfl) d_La_law_2193) (fun q64 => ?_)
  refine v_lcmp_eq 2686 g d_La_law_2196 d_La_law_2197 (by decide) (fun _ => ?_) (fun _ => ?_)
  · exact v_sub [0,1,2,3] rfl (vB_La_law_2686 hX g hk18 v3 q64.2)
  · refine v_iconst (v := (0 : Int32)) g d_La_law_2200 (by decide +kernel) ?_
    exact v_ret d_La_law_2201 rfl
theorem d_La_law_2202 : decode code 2202 = .ok (.aload_n 1, 1) := by decide +kernel
theorem d_La_law_2203 : decode code 2203 = .ok (.aload_n 0, 1) := by decide +kernel
theorem d_La_law_2204 : decode code 2204 = .ok (.iload_n 3, 1) := by decide +kernel
theorem d_La_law_2205 : decode code 2205 = .ok (.iconst 1, 1) := by decide +kernel
theorem d_La_law_2206 : decode code 2206 = .ok (.iadd, 1) := by decide +kernel
theorem d_La_law_2207 : decode code 2207 = .ok (.iaload, 1) := by decide +kernel
theorem d_La_law_2208 : decode code 2208 = .ok (.aload_n 0, 1) := by decide +kernel
theorem d_La_law_2209 : decode code 2209 = .ok (.iload_n 3, 1) := by decide +kernel
theorem d_La_law_2210 : decode code 2210 = .ok (.iconst 2, 1) := by decide +kernel
theorem d_La_law_2211 : decode code 2211 = .ok (.iadd, 1) := by decide +kernel
theorem d_La_law_2212 : decode code 2212 = .ok (.iaload, 1) := by decide +kernel
theorem d_La_law_2213 : decode code 2213 = .ok (.aload_n 0, 1) := by decide +kernel
theorem d_La_law_2214 : decode code 2214 = .ok (.iload_n 3, 1) := by decide +kernel
theorem d_La_law_2215 : decode code 2215 = .ok (.iconst 3, 1) := by decide +kernel
theorem d_La_law_2216 : decode code 2216 = .ok (.iadd, 1) := by decide +kernel
theorem d_La_law_2217 : decode code 2217 = .ok (.iaload, 1) := by decide +kernel
theorem d_La_law_2218 : decode code 2218 = .ok (.i2l, 1) := by decide +kernel
theorem d_La_law_2219 : decode code 2219 = .ok (.bipush 32, 2) := by decide +kernel
theorem d_La_law_2221 : decode code 2221 = .ok (.lshl, 1) := by decide +kernel
theorem d_La_law_2222 : decode code 2222 = .ok (.aload_n 0, 1) := by decide +kernel
theorem d_La_law_2223 : decode code 2223 = .ok (.iload_n 3, 1) := by decide +kernel
theorem d_La_law_2224 : decode code 2224 = .ok (.iconst 4, 1) := by decide +kernel
theorem d_La_law_2225 : decode code 2225 = .ok (.iadd, 1) := by decide +kernel
theorem d_La_law_2226 : decode code 2226 = .ok (.iaload, 1) := by decide +kernel
theorem d_La_law_2227 : decode code 2227 = .ok (.i2l, 1) := by decide +kernel
theorem d_La_law_2228 : decode code 2228 = .ok (.ldc2_w 35, 3) := by decide +kernel
theorem d_La_law_2231 : decode code 2231 = .ok (.land, 1) := by decide +kernel
theorem d_La_law_2232 : decode code 2232 = .ok (.lor, 1) := by decide +kernel
theorem d_La_law_2233 : decode code 2233 = .ok (.invokevirtual 161, 3) := by decide +kernel
theorem d_La_law_2236 : decode code 2236 = .ok (.aload_n 2, 1) := by decide +kernel
theorem d_La_law_2237 : decode code 2237 = .ok (.aload_n 0, 1) := by decide +kernel
theorem d_La_law_2238 : decode code 2238 = .ok (.iload_n 3, 1) := by decide +kernel
theorem d_La_law_2239 : decode code 2239 = .ok (.iconst 1, 1) := by decide +kernel
theorem d_La_law_2240 : decode code 2240 = .ok (.iadd, 1) := by decide +kernel
theorem d_La_law_2241 : decode code 2241 = .ok (.iaload, 1) := by decide +kernel
theorem d_La_law_2242 : decode code 2242 = .ok (.aload_n 0, 1) := by decide +kernel
theorem d_La_law_2243 : decode code 2243 = .ok (.iload_n 3, 1) := by decide +kernel
theorem d_La_law_2244 : decode code 2244 = .ok (.iconst 2, 1) := by decide +kernel
theorem d_La_law_2245 : decode code 2245 = .ok (.iadd, 1) := by decide +kernel
theorem d_La_law_2246 : decode code 2246 = .ok (.iaload, 1) := by decide +kernel
theorem d_La_law_2247 : decode code 2247 = .ok (.aload_n 0, 1) := by decide +kernel
theorem d_La_law_2248 : decode code 2248 = .ok (.iload_n 3, 1) := by decide +kernel
theorem d_La_law_2249 : decode code 2249 = .ok (.iconst 3, 1) := by decide +kernel
theorem d_La_law_2250 : decode code 2250 = .ok (.iadd, 1) := by decide +kernel
theorem d_La_law_2251 : decode code 2251 = .ok (.iaload, 1) := by decide +kernel
theorem d_La_law_2252 : decode code 2252 = .ok (.i2l, 1) := by decide +kernel
theorem d_La_law_2253 : decode code 2253 = .ok (.bipush 32, 2) := by decide +kernel
theorem d_La_law_2255 : decode code 2255 = .ok (.lshl, 1) := by decide +kernel
theorem d_La_law_2256 : decode code 2256 = .ok (.aload_n 0, 1) := by decide +kernel
theorem d_La_law_2257 : decode code 2257 = .ok (.iload_n 3, 1) := by decide +kernel
theorem d_La_law_2258 : decode code 2258 = .ok (.iconst 4, 1) := by decide +kernel
theorem d_La_law_2259 : decode code 2259 = .ok (.iadd, 1) := by decide +kernel
theorem d_La_law_2260 : decode code 2260 = .ok (.iaload, 1) := by decide +kernel
theorem d_La_law_2261 : decode code 2261 = .ok (.i2l, 1) := by decide +kernel
theorem d_La_law_2262 : decode code 2262 = .ok (.ldc2_w 35, 3) := by decide +kernel
theorem d_La_law_2265 : decode code 2265 = .ok (.land, 1) := by decide +kernel
theorem d_La_law_2266 : decode code 2266 = .ok (.lor, 1) := by decide +kernel
theorem d_La_law_2267 : decode code 2267 = .ok (.invokevirtual 164, 3) := by decide +kernel
theorem d_La_law_2270 : decode code 2270 = .ok (.if_icmp .eq 416, 3) := by decide +kernel
theorem d_La_law_2273 : decode code 2273 = .ok (.iconst 0, 1) := by decide +kernel
theorem d_La_law_2274 : decode code 2274 = .ok (.ireturn, 1) := by decide +kernel
def B_La_law_2202 (L : Nat) (xs : Nat → Int32) (k18 : Int32 → Sto → Option (Bool × Sto)) (v3 : Int32) (σ : Sto) : Option (Bool × Sto) :=
  (if inb (v3 + (1 : Int32)) L = true then (if inb (v3 + (2 : Int32)) L = true then (if inb (v3 + (3 : Int32)) L = true then (if inb (v3 + (4 : Int32)) L = true then ((f_FR_hold (xs (Int32.toNatClampNeg (v3 + (1 : Int32)))) (xs (Int32.toNatClampNeg (v3 + (2 : Int32)))) ((lsh (Int32.toInt64 (xs (Int32.toNatClampNeg (v3 + (3 : Int32))))) (32 : Int32)) ||| ((Int32.toInt64 (xs (Int32.toNatClampNeg (v3 + (4 : Int32))))) &&& (4294967295 : Int64))) σ).bind fun q65 => (if inb (v3 + (1 : Int32)) L = true then (if inb (v3 + (2 : Int32)) L = true then (if inb (v3 + (3 : Int32)) L = true then (if inb (v3 + (4 : Int32)) L = true then ((f_Mo_hold (xs (Int32.toNatClampNeg (v3 + (1 : Int32)))) (xs (Int32.toNatClampNeg (v3 + (2 : Int32)))) ((lsh (Int32.toInt64 (xs (Int32.toNatClampNeg (v3 + (3 : Int32))))) (32 : Int32)) ||| ((Int32.toInt64 (xs (Int32.toNatClampNeg (v3 + (4 : Int32))))) &&& (4294967295 : Int64))) q65.2).bind fun q66 => (if q65.1 = q66.1 then B_La_law_2686 L xs k18 v3 q66.2
 else some (false, q66.2))) else none) else none) else none) else none)) else none) else none) else none) else none)
set_option maxHeartbeats 4000000 in
set_option maxRecDepth 100000 in
theorem vB_La_law_2202 {X : Xt} {E : En} {L : Nat} {xs : Nat → Int32} (hX : SX X E L xs) (g : GG X E 200 code R_La 4) {k18 : Int32 → Sto → Option (Bool × Sto)} (hk18 : ∀ (v3 : Int32) (σ : Sto), VV X E code 4 eB 18 [(0, .ref (E.2.1 999)), (1, .ref (E.2.1 0)), (2, .ref (E.2.1 48)), (3, .int v3)] [] σ (k18 v3 σ)) (v3 : Int32) (σ : Sto) : VV X E code 4 eB 2202 [(0, .ref (E.2.1 999)), (1, .ref (E.2.1 0)), (2, .ref (E.2.1 48)), (3, .int v3)] [] σ (B_La_law_2202 L xs k18 v3 σ) := by
  unfold B_La_law_2202
  refine v_aload_n 1 g d_La_law_2202 rfl ?_
  refine v_aload_n 0 g d_La_law_2203 rfl ?_
  refine v_iload_n 3 g d_La_law_2204 rfl ?_
  refine v_iconst (v := (1 : Int32)) g d_La_law_2205 (by decide +kernel) ?_
  refine v_iadd g d_La_law_2206 ?_
  refine v_sld hX g d_La_law_2207 (fun _ => ?_)
  refine v_aload_n 0 g d_La_law_2208 rfl ?_
  refine v_iload_n 3 g d_La_law_2209 rfl ?_
  refine v_iconst (v := (2 : Int32)) g d_La_law_2210 (by decide +kernel) ?_
  refine v_iadd g d_La_law_2211 ?_
  refine v_sld hX g d_La_law_2212 (fun _ => ?_)
  refine v_aload_n 0 g d_La_law_2213 rfl ?_
  refine v_iload_n 3 g d_La_law_2214 rfl ?_
  refine v_iconst (v := (3 : Int32)) g d_La_law_2215 (by decide +kernel) ?_
  refine v_iadd g d_La_law_2216 ?_
  refine v_sld hX g d_La_law_2217 (fun _ => ?_)
  refine v_i2l g d_La_law_2218 ?_
  refine v_bipush (v := (32 : Int32)) g d_La_law_2219 (by decide +kernel) ?_
  refine v_lshl g d_La_law_2221 ?_
  refine v_aload_n 0 g d_La_law_2222 rfl ?_
  refine v_iload_n 3 g d_La_law_2223 rfl ?_
  refine v_iconst (v := (4 : Int32)) g d_La_law_2224 (by decide +kernel) ?_
  refine v_iadd g d_La_law_2225 ?_
  refine v_sld hX g d_La_law_2226 (fun _ => ?_)
  refine v_i2l g d_La_law_2227 ?_
  refine v_ldc2 (v := (4294967295 : Int64)) g (m1 1567 (by decide +kernel) (by decide +kernel)) d_La_law_2228 ?_
  refine v_land g d_La_law_2231 ?_
  refine v_lor g d_La_law_2232 ?_
  refine v_callI (r_V (rest := []) [.int (xs (Int32.toNatClampNeg (v3 + (1 : Int32)))), .int (xs (Int32.toNatClampNeg (v3 + (2 : Int32)))), .long ((lsh (Int32.toInt64 (xs (Int32.toNatClampNeg (v3 + (3 : Int32))))) (32 : Int32)) ||| ((Int32.toInt64 (xs (Int32.toNatClampNeg (v3 + (4 : Int32))))) &&& (4294967295 : Int64)))] g (m1 976 (by decide +kernel) (by decide +kernel)) yv_FR_hold rfl (fun r σ1 h => sp_FR_hold g.2.2.1  h) rfl rfl (by decide) (Nat.le_of_ble_eq_true rfl) d_La_law_2233) (fun q65 => ?_)
  refine v_aload_n 2 g d_La_law_2236 rfl ?_
  refine v_aload_n 0 g d_La_law_2237 rfl ?_
  refine v_iload_n 3 g d_La_law_2238 rfl ?_
  refine v_iconst (v := (1 : Int32)) g d_La_law_2239 (by decide +kernel) ?_
  refine v_iadd g d_La_law_2240 ?_
  refine v_sld hX g d_La_law_2241 (fun _ => ?_)
  refine v_aload_n 0 g d_La_law_2242 rfl ?_
  refine v_iload_n 3 g d_La_law_2243 rfl ?_
  refine v_iconst (v := (2 : Int32)) g d_La_law_2244 (by decide +kernel) ?_
  refine v_iadd g d_La_law_2245 ?_
  refine v_sld hX g d_La_law_2246 (fun _ => ?_)
  refine v_aload_n 0 g d_La_law_2247 rfl ?_
  refine v_iload_n 3 g d_La_law_2248 rfl ?_
  refine v_iconst (v := (3 : Int32)) g d_La_law_2249 (by decide +kernel) ?_
  refine v_iadd g d_La_law_2250 ?_
  refine v_sld hX g d_La_law_2251 (fun _ => ?_)
  refine v_i2l g d_La_law_2252 ?_
  refine v_bipush (v := (32 : Int32)) g d_La_law_2253 (by decide +kernel) ?_
  refine v_lshl g d_La_law_2255 ?_
  refine v_aload_n 0 g d_La_law_2256 rfl ?_
  refine v_iload_n 3 g d_La_law_2257 rfl ?_
  refine v_iconst (v := (4 : Int32)) g d_La_law_2258 (by decide +kernel) ?_
  refine v_iadd g d_La_law_2259 ?_
  refine v_sld hX g d_La_law_2260 (fun _ => ?_)
  refine v_i2l g d_La_law_2261 ?_
  refine v_ldc2 (v := (4294967295 : Int64)) g (m1 1567 (by decide +kernel) (by decide +kernel)) d_La_law_2262 ?_
  refine v_land g d_La_law_2265 ?_
  refine v_lor g d_La_law_2266 ?_
  refine v_callI (r_V (rest := [.int q65.1]) [.int (xs (Int32.toNatClampNeg (v3 + (1 : Int32)))), .int (xs (Int32.toNatClampNeg (v3 + (2 : Int32)))), .long ((lsh (Int32.toInt64 (xs (Int32.toNatClampNeg (v3 + (3 : Int32))))) (32 : Int32)) ||| ((Int32.toInt64 (xs (Int32.toNatClampNeg (v3 + (4 : Int32))))) &&& (4294967295 : Int64)))] g (m1 1509 (by decide +kernel) (by decide +kernel)) yv_Mo_hold rfl (fun r σ1 h => sp_Mo_hold g.2.2.1  h) rfl rfl (by decide) (Nat.le_of_ble_eq_true rfl) d_La_law_2267) (fun q66 => ?_)
  refine v_icmp_eq 2686 g d_La_law_2270 (by decide) (fun _ => ?_) (fun _ => ?_)
  · exact v_sub [0,1,2,3] rfl (vB_La_law_2686 hX g hk18 v3 q66.2)
  · refine v_iconst (v := (0 : Int32)) g d_La_law_2273 (by decide +kernel) ?_
    exact v_ret d_La_law_2274 rfl
theorem d_La_law_2275 : decode code 2275 = .ok (.aload_n 1, 1) := by decide +kernel
theorem d_La_law_2276 : decode code 2276 = .ok (.aload_n 0, 1) := by decide +kernel
theorem d_La_law_2277 : decode code 2277 = .ok (.iload_n 3, 1) := by decide +kernel
theorem d_La_law_2278 : decode code 2278 = .ok (.iconst 1, 1) := by decide +kernel
theorem d_La_law_2279 : decode code 2279 = .ok (.iadd, 1) := by decide +kernel
theorem d_La_law_2280 : decode code 2280 = .ok (.iaload, 1) := by decide +kernel
theorem d_La_law_2281 : decode code 2281 = .ok (.aload_n 0, 1) := by decide +kernel
theorem d_La_law_2282 : decode code 2282 = .ok (.iload_n 3, 1) := by decide +kernel
theorem d_La_law_2283 : decode code 2283 = .ok (.iconst 2, 1) := by decide +kernel
theorem d_La_law_2284 : decode code 2284 = .ok (.iadd, 1) := by decide +kernel
theorem d_La_law_2285 : decode code 2285 = .ok (.iaload, 1) := by decide +kernel
theorem d_La_law_2286 : decode code 2286 = .ok (.invokevirtual 165, 3) := by decide +kernel
theorem d_La_law_2289 : decode code 2289 = .ok (.aload_n 2, 1) := by decide +kernel
theorem d_La_law_2290 : decode code 2290 = .ok (.aload_n 0, 1) := by decide +kernel
theorem d_La_law_2291 : decode code 2291 = .ok (.iload_n 3, 1) := by decide +kernel
theorem d_La_law_2292 : decode code 2292 = .ok (.iconst 1, 1) := by decide +kernel
theorem d_La_law_2293 : decode code 2293 = .ok (.iadd, 1) := by decide +kernel
theorem d_La_law_2294 : decode code 2294 = .ok (.iaload, 1) := by decide +kernel
theorem d_La_law_2295 : decode code 2295 = .ok (.aload_n 0, 1) := by decide +kernel
theorem d_La_law_2296 : decode code 2296 = .ok (.iload_n 3, 1) := by decide +kernel
theorem d_La_law_2297 : decode code 2297 = .ok (.iconst 2, 1) := by decide +kernel
theorem d_La_law_2298 : decode code 2298 = .ok (.iadd, 1) := by decide +kernel
theorem d_La_law_2299 : decode code 2299 = .ok (.iaload, 1) := by decide +kernel
theorem d_La_law_2300 : decode code 2300 = .ok (.invokevirtual 168, 3) := by decide +kernel
theorem d_La_law_2303 : decode code 2303 = .ok (.if_icmp .eq 383, 3) := by decide +kernel
theorem d_La_law_2306 : decode code 2306 = .ok (.iconst 0, 1) := by decide +kernel
theorem d_La_law_2307 : decode code 2307 = .ok (.ireturn, 1) := by decide +kernel
def B_La_law_2275 (L : Nat) (xs : Nat → Int32) (k18 : Int32 → Sto → Option (Bool × Sto)) (v3 : Int32) (σ : Sto) : Option (Bool × Sto) :=
  (if inb (v3 + (1 : Int32)) L = true then (if inb (v3 + (2 : Int32)) L = true then ((f_FR_handAs (xs (Int32.toNatClampNeg (v3 + (1 : Int32)))) (xs (Int32.toNatClampNeg (v3 + (2 : Int32)))) σ).bind fun q67 => (if inb (v3 + (1 : Int32)) L = true then (if inb (v3 + (2 : Int32)) L = true then ((f_Mo_handAs (xs (Int32.toNatClampNeg (v3 + (1 : Int32)))) (xs (Int32.toNatClampNeg (v3 + (2 : Int32)))) q67.2).bind fun q68 => (if q67.1 = q68.1 then B_La_law_2686 L xs k18 v3 q68.2
 else some (false, q68.2))) else none) else none)) else none) else none)
set_option maxHeartbeats 4000000 in
set_option maxRecDepth 100000 in
theorem vB_La_law_2275 {X : Xt} {E : En} {L : Nat} {xs : Nat → Int32} (hX : SX X E L xs) (g : GG X E 200 code R_La 4) {k18 : Int32 → Sto → Option (Bool × Sto)} (hk18 : ∀ (v3 : Int32) (σ : Sto), VV X E code 4 eB 18 [(0, .ref (E.2.1 999)), (1, .ref (E.2.1 0)), (2, .ref (E.2.1 48)), (3, .int v3)] [] σ (k18 v3 σ)) (v3 : Int32) (σ : Sto) : VV X E code 4 eB 2275 [(0, .ref (E.2.1 999)), (1, .ref (E.2.1 0)), (2, .ref (E.2.1 48)), (3, .int v3)] [] σ (B_La_law_2275 L xs k18 v3 σ) := by
  unfold B_La_law_2275
  refine v_aload_n 1 g d_La_law_2275 rfl ?_
  refine v_aload_n 0 g d_La_law_2276 rfl ?_
  refine v_iload_n 3 g d_La_law_2277 rfl ?_
  refine v_iconst (v := (1 : Int32)) g d_La_law_2278 (by decide +kernel) ?_
  refine v_iadd g d_La_law_2279 ?_
  refine v_sld hX g d_La_law_2280 (fun _ => ?_)
  refine v_aload_n 0 g d_La_law_2281 rfl ?_
  refine v_iload_n 3 g d_La_law_2282 rfl ?_
  refine v_iconst (v := (2 : Int32)) g d_La_law_2283 (by decide +kernel) ?_
  refine v_iadd g d_La_law_2284 ?_
  refine v_sld hX g d_La_law_2285 (fun _ => ?_)
  refine v_callI (r_V (rest := []) [.int (xs (Int32.toNatClampNeg (v3 + (1 : Int32)))), .int (xs (Int32.toNatClampNeg (v3 + (2 : Int32))))] g (m1 983 (by decide +kernel) (by decide +kernel)) yv_FR_handAs rfl (fun r σ1 h => sp_FR_handAs g.2.2.1  h) rfl rfl (by decide) (Nat.le_of_ble_eq_true rfl) d_La_law_2286) (fun q67 => ?_)
  refine v_aload_n 2 g d_La_law_2289 rfl ?_
  refine v_aload_n 0 g d_La_law_2290 rfl ?_
  refine v_iload_n 3 g d_La_law_2291 rfl ?_
  refine v_iconst (v := (1 : Int32)) g d_La_law_2292 (by decide +kernel) ?_
  refine v_iadd g d_La_law_2293 ?_
  refine v_sld hX g d_La_law_2294 (fun _ => ?_)
  refine v_aload_n 0 g d_La_law_2295 rfl ?_
  refine v_iload_n 3 g d_La_law_2296 rfl ?_
  refine v_iconst (v := (2 : Int32)) g d_La_law_2297 (by decide +kernel) ?_
  refine v_iadd g d_La_law_2298 ?_
  refine v_sld hX g d_La_law_2299 (fun _ => ?_)
  refine v_callI (r_V (rest := [.int q67.1]) [.int (xs (Int32.toNatClampNeg (v3 + (1 : Int32)))), .int (xs (Int32.toNatClampNeg (v3 + (2 : Int32))))] g (m1 1516 (by decide +kernel) (by decide +kernel)) yv_Mo_handAs rfl (fun r σ1 h => sp_Mo_handAs g.2.2.1  h) rfl rfl (by decide) (Nat.le_of_ble_eq_true rfl) d_La_law_2300) (fun q68 => ?_)
  refine v_icmp_eq 2686 g d_La_law_2303 (by decide) (fun _ => ?_) (fun _ => ?_)
  · exact v_sub [0,1,2,3] rfl (vB_La_law_2686 hX g hk18 v3 q68.2)
  · refine v_iconst (v := (0 : Int32)) g d_La_law_2306 (by decide +kernel) ?_
    exact v_ret d_La_law_2307 rfl
theorem d_La_law_2308 : decode code 2308 = .ok (.aload_n 1, 1) := by decide +kernel
theorem d_La_law_2309 : decode code 2309 = .ok (.aload_n 0, 1) := by decide +kernel
theorem d_La_law_2310 : decode code 2310 = .ok (.iload_n 3, 1) := by decide +kernel
theorem d_La_law_2311 : decode code 2311 = .ok (.iconst 1, 1) := by decide +kernel
theorem d_La_law_2312 : decode code 2312 = .ok (.iadd, 1) := by decide +kernel
theorem d_La_law_2313 : decode code 2313 = .ok (.iaload, 1) := by decide +kernel
theorem d_La_law_2314 : decode code 2314 = .ok (.aload_n 0, 1) := by decide +kernel
theorem d_La_law_2315 : decode code 2315 = .ok (.iload_n 3, 1) := by decide +kernel
theorem d_La_law_2316 : decode code 2316 = .ok (.iconst 2, 1) := by decide +kernel
theorem d_La_law_2317 : decode code 2317 = .ok (.iadd, 1) := by decide +kernel
theorem d_La_law_2318 : decode code 2318 = .ok (.iaload, 1) := by decide +kernel
theorem d_La_law_2319 : decode code 2319 = .ok (.aload_n 0, 1) := by decide +kernel
theorem d_La_law_2320 : decode code 2320 = .ok (.iload_n 3, 1) := by decide +kernel
theorem d_La_law_2321 : decode code 2321 = .ok (.iconst 3, 1) := by decide +kernel
theorem d_La_law_2322 : decode code 2322 = .ok (.iadd, 1) := by decide +kernel
theorem d_La_law_2323 : decode code 2323 = .ok (.iaload, 1) := by decide +kernel
theorem d_La_law_2324 : decode code 2324 = .ok (.aload_n 0, 1) := by decide +kernel
theorem d_La_law_2325 : decode code 2325 = .ok (.iload_n 3, 1) := by decide +kernel
theorem d_La_law_2326 : decode code 2326 = .ok (.iconst 4, 1) := by decide +kernel
theorem d_La_law_2327 : decode code 2327 = .ok (.iadd, 1) := by decide +kernel
theorem d_La_law_2328 : decode code 2328 = .ok (.iaload, 1) := by decide +kernel
theorem d_La_law_2329 : decode code 2329 = .ok (.i2l, 1) := by decide +kernel
theorem d_La_law_2330 : decode code 2330 = .ok (.bipush 32, 2) := by decide +kernel
theorem d_La_law_2332 : decode code 2332 = .ok (.lshl, 1) := by decide +kernel
theorem d_La_law_2333 : decode code 2333 = .ok (.aload_n 0, 1) := by decide +kernel
theorem d_La_law_2334 : decode code 2334 = .ok (.iload_n 3, 1) := by decide +kernel
theorem d_La_law_2335 : decode code 2335 = .ok (.iconst 5, 1) := by decide +kernel
theorem d_La_law_2336 : decode code 2336 = .ok (.iadd, 1) := by decide +kernel
theorem d_La_law_2337 : decode code 2337 = .ok (.iaload, 1) := by decide +kernel
theorem d_La_law_2338 : decode code 2338 = .ok (.i2l, 1) := by decide +kernel
theorem d_La_law_2339 : decode code 2339 = .ok (.ldc2_w 35, 3) := by decide +kernel
theorem d_La_law_2342 : decode code 2342 = .ok (.land, 1) := by decide +kernel
theorem d_La_law_2343 : decode code 2343 = .ok (.lor, 1) := by decide +kernel
theorem d_La_law_2344 : decode code 2344 = .ok (.invokevirtual 169, 3) := by decide +kernel
theorem d_La_law_2347 : decode code 2347 = .ok (.aload_n 2, 1) := by decide +kernel
theorem d_La_law_2348 : decode code 2348 = .ok (.aload_n 0, 1) := by decide +kernel
theorem d_La_law_2349 : decode code 2349 = .ok (.iload_n 3, 1) := by decide +kernel
theorem d_La_law_2350 : decode code 2350 = .ok (.iconst 1, 1) := by decide +kernel
theorem d_La_law_2351 : decode code 2351 = .ok (.iadd, 1) := by decide +kernel
theorem d_La_law_2352 : decode code 2352 = .ok (.iaload, 1) := by decide +kernel
theorem d_La_law_2353 : decode code 2353 = .ok (.aload_n 0, 1) := by decide +kernel
theorem d_La_law_2354 : decode code 2354 = .ok (.iload_n 3, 1) := by decide +kernel
theorem d_La_law_2355 : decode code 2355 = .ok (.iconst 2, 1) := by decide +kernel
theorem d_La_law_2356 : decode code 2356 = .ok (.iadd, 1) := by decide +kernel
theorem d_La_law_2357 : decode code 2357 = .ok (.iaload, 1) := by decide +kernel
theorem d_La_law_2358 : decode code 2358 = .ok (.aload_n 0, 1) := by decide +kernel
theorem d_La_law_2359 : decode code 2359 = .ok (.iload_n 3, 1) := by decide +kernel
theorem d_La_law_2360 : decode code 2360 = .ok (.iconst 3, 1) := by decide +kernel
theorem d_La_law_2361 : decode code 2361 = .ok (.iadd, 1) := by decide +kernel
theorem d_La_law_2362 : decode code 2362 = .ok (.iaload, 1) := by decide +kernel
theorem d_La_law_2363 : decode code 2363 = .ok (.aload_n 0, 1) := by decide +kernel
theorem d_La_law_2364 : decode code 2364 = .ok (.iload_n 3, 1) := by decide +kernel
theorem d_La_law_2365 : decode code 2365 = .ok (.iconst 4, 1) := by decide +kernel
theorem d_La_law_2366 : decode code 2366 = .ok (.iadd, 1) := by decide +kernel
theorem d_La_law_2367 : decode code 2367 = .ok (.iaload, 1) := by decide +kernel
theorem d_La_law_2368 : decode code 2368 = .ok (.i2l, 1) := by decide +kernel
theorem d_La_law_2369 : decode code 2369 = .ok (.bipush 32, 2) := by decide +kernel
theorem d_La_law_2371 : decode code 2371 = .ok (.lshl, 1) := by decide +kernel
theorem d_La_law_2372 : decode code 2372 = .ok (.aload_n 0, 1) := by decide +kernel
theorem d_La_law_2373 : decode code 2373 = .ok (.iload_n 3, 1) := by decide +kernel
theorem d_La_law_2374 : decode code 2374 = .ok (.iconst 5, 1) := by decide +kernel
theorem d_La_law_2375 : decode code 2375 = .ok (.iadd, 1) := by decide +kernel
theorem d_La_law_2376 : decode code 2376 = .ok (.iaload, 1) := by decide +kernel
theorem d_La_law_2377 : decode code 2377 = .ok (.i2l, 1) := by decide +kernel
theorem d_La_law_2378 : decode code 2378 = .ok (.ldc2_w 35, 3) := by decide +kernel
theorem d_La_law_2381 : decode code 2381 = .ok (.land, 1) := by decide +kernel
theorem d_La_law_2382 : decode code 2382 = .ok (.lor, 1) := by decide +kernel
theorem d_La_law_2383 : decode code 2383 = .ok (.invokevirtual 172, 3) := by decide +kernel
theorem d_La_law_2386 : decode code 2386 = .ok (.if_icmp .eq 300, 3) := by decide +kernel
theorem d_La_law_2389 : decode code 2389 = .ok (.iconst 0, 1) := by decide +kernel
theorem d_La_law_2390 : decode code 2390 = .ok (.ireturn, 1) := by decide +kernel
def B_La_law_2308 (L : Nat) (xs : Nat → Int32) (k18 : Int32 → Sto → Option (Bool × Sto)) (v3 : Int32) (σ : Sto) : Option (Bool × Sto) :=
  (if inb (v3 + (1 : Int32)) L = true then (if inb (v3 + (2 : Int32)) L = true then (if inb (v3 + (3 : Int32)) L = true then (if inb (v3 + (4 : Int32)) L = true then (if inb (v3 + (5 : Int32)) L = true then ((f_FR_handBound (xs (Int32.toNatClampNeg (v3 + (1 : Int32)))) (xs (Int32.toNatClampNeg (v3 + (2 : Int32)))) (xs (Int32.toNatClampNeg (v3 + (3 : Int32)))) ((lsh (Int32.toInt64 (xs (Int32.toNatClampNeg (v3 + (4 : Int32))))) (32 : Int32)) ||| ((Int32.toInt64 (xs (Int32.toNatClampNeg (v3 + (5 : Int32))))) &&& (4294967295 : Int64))) σ).bind fun q69 => (if inb (v3 + (1 : Int32)) L = true then (if inb (v3 + (2 : Int32)) L = true then (if inb (v3 + (3 : Int32)) L = true then (if inb (v3 + (4 : Int32)) L = true then (if inb (v3 + (5 : Int32)) L = true then ((f_Mo_handBound (xs (Int32.toNatClampNeg (v3 + (1 : Int32)))) (xs (Int32.toNatClampNeg (v3 + (2 : Int32)))) (xs (Int32.toNatClampNeg (v3 + (3 : Int32)))) ((lsh (Int32.toInt64 (xs (Int32.toNatClampNeg (v3 + (4 : Int32))))) (32 : Int32)) ||| ((Int32.toInt64 (xs (Int32.toNatClampNeg (v3 + (5 : Int32))))) &&& (4294967295 : Int64))) q69.2).bind fun q70 => (if q69.1 = q70.1 then B_La_law_2686 L xs k18 v3 q70.2
 else some (false, q70.2))) else none) else none) else none) else none) else none)) else none) else none) else none) else none) else none)
set_option maxHeartbeats 4000000 in
set_option maxRecDepth 100000 in
theorem vB_La_law_2308 {X : Xt} {E : En} {L : Nat} {xs : Nat → Int32} (hX : SX X E L xs) (g : GG X E 200 code R_La 4) {k18 : Int32 → Sto → Option (Bool × Sto)} (hk18 : ∀ (v3 : Int32) (σ : Sto), VV X E code 4 eB 18 [(0, .ref (E.2.1 999)), (1, .ref (E.2.1 0)), (2, .ref (E.2.1 48)), (3, .int v3)] [] σ (k18 v3 σ)) (v3 : Int32) (σ : Sto) : VV X E code 4 eB 2308 [(0, .ref (E.2.1 999)), (1, .ref (E.2.1 0)), (2, .ref (E.2.1 48)), (3, .int v3)] [] σ (B_La_law_2308 L xs k18 v3 σ) := by
  unfold B_La_law_2308
  refine v_aload_n 1 g d_La_law_2308 rfl ?_
  refine v_aload_n 0 g d_La_law_2309 rfl ?_
  refine v_iload_n 3 g d_La_law_2310 rfl ?_
  refine v_iconst (v := (1 : Int32)) g d_La_law_2311 (by decide +kernel) ?_
  refine v_iadd g d_La_law_2312 ?_
  refine v_sld hX g d_La_law_2313 (fun _ => ?_)
  refine v_aload_n 0 g d_La_law_2314 rfl ?_
  refine v_iload_n 3 g d_La_law_2315 rfl ?_
  refine v_iconst (v := (2 : Int32)) g d_La_law_2316 (by decide +kernel) ?_
  refine v_iadd g d_La_law_2317 ?_
  refine v_sld hX g d_La_law_2318 (fun _ => ?_)
  refine v_aload_n 0 g d_La_law_2319 rfl ?_
  refine v_iload_n 3 g d_La_law_2320 rfl ?_
  refine v_iconst (v := (3 : Int32)) g d_La_law_2321 (by decide +kernel) ?_
  refine v_iadd g d_La_law_2322 ?_
  refine v_sld hX g d_La_law_2323 (fun _ => ?_)
  refine v_aload_n 0 g d_La_law_2324 rfl ?_
  refine v_iload_n 3 g d_La_law_2325 rfl ?_
  refine v_iconst (v := (4 : Int32)) g d_La_law_2326 (by decide +kernel) ?_
  refine v_iadd g d_La_law_2327 ?_
  refine v_sld hX g d_La_law_2328 (fun _ => ?_)
  refine v_i2l g d_La_law_2329 ?_
  refine v_bipush (v := (32 : Int32)) g d_La_law_2330 (by decide +kernel) ?_
  refine v_lshl g d_La_law_2332 ?_
  refine v_aload_n 0 g d_La_law_2333 rfl ?_
  refine v_iload_n 3 g d_La_law_2334 rfl ?_
  refine v_iconst (v := (5 : Int32)) g d_La_law_2335 (by decide +kernel) ?_
  refine v_iadd g d_La_law_2336 ?_
  refine v_sld hX g d_La_law_2337 (fun _ => ?_)
  refine v_i2l g d_La_law_2338 ?_
  refine v_ldc2 (v := (4294967295 : Int64)) g (m1 1567 (by decide +kernel) (by decide +kernel)) d_La_law_2339 ?_
  refine v_land g d_La_law_2342 ?_
  refine v_lor g d_La_law_2343 ?_
  refine v_callI (r_V (rest := []) [.int (xs (Int32.toNatClampNeg (v3 + (1 : Int32)))), .int (xs (Int32.toNatClampNeg (v3 + (2 : Int32)))), .int (xs (Int32.toNatClampNeg (v3 + (3 : Int32)))), .long ((lsh (Int32.toInt64 (xs (Int32.toNatClampNeg (v3 + (4 : Int32))))) (32 : Int32)) ||| ((Int32.toInt64 (xs (Int32.toNatClampNeg (v3 + (5 : Int32))))) &&& (4294967295 : Int64)))] g (m1 996 (by decide +kernel) (by decide +kernel)) yv_FR_handBound rfl (fun r σ1 h => sp_FR_handBound g.2.2.1  h) rfl rfl (by decide) (Nat.le_of_ble_eq_true rfl) d_La_law_2344) (fun q69 => ?_)
  refine v_aload_n 2 g d_La_law_2347 rfl ?_
  refine v_aload_n 0 g d_La_law_2348 rfl ?_
  refine v_iload_n 3 g d_La_law_2349 rfl ?_
  refine v_iconst (v := (1 : Int32)) g d_La_law_2350 (by decide +kernel) ?_
  refine v_iadd g d_La_law_2351 ?_
  refine v_sld hX g d_La_law_2352 (fun _ => ?_)
  refine v_aload_n 0 g d_La_law_2353 rfl ?_
  refine v_iload_n 3 g d_La_law_2354 rfl ?_
  refine v_iconst (v := (2 : Int32)) g d_La_law_2355 (by decide +kernel) ?_
  refine v_iadd g d_La_law_2356 ?_
  refine v_sld hX g d_La_law_2357 (fun _ => ?_)
  refine v_aload_n 0 g d_La_law_2358 rfl ?_
  refine v_iload_n 3 g d_La_law_2359 rfl ?_
  refine v_iconst (v := (3 : Int32)) g d_La_law_2360 (by decide +kernel) ?_
  refine v_iadd g d_La_law_2361 ?_
  refine v_sld hX g d_La_law_2362 (fun _ => ?_)
  refine v_aload_n 0 g d_La_law_2363 rfl ?_
  refine v_iload_n 3 g d_La_law_2364 rfl ?_
  refine v_iconst (v := (4 : Int32)) g d_La_law_2365 (by decide +kernel) ?_
  refine v_iadd g d_La_law_2366 ?_
  refine v_sld hX g d_La_law_2367 (fun _ => ?_)
  refine v_i2l g d_La_law_2368 ?_
  refine v_bipush (v := (32 : Int32)) g d_La_law_2369 (by decide +kernel) ?_
  refine v_lshl g d_La_law_2371 ?_
  refine v_aload_n 0 g d_La_law_2372 rfl ?_
  refine v_iload_n 3 g d_La_law_2373 rfl ?_
  refine v_iconst (v := (5 : Int32)) g d_La_law_2374 (by decide +kernel) ?_
  refine v_iadd g d_La_law_2375 ?_
  refine v_sld hX g d_La_law_2376 (fun _ => ?_)
  refine v_i2l g d_La_law_2377 ?_
  refine v_ldc2 (v := (4294967295 : Int64)) g (m1 1567 (by decide +kernel) (by decide +kernel)) d_La_law_2378 ?_
  refine v_land g d_La_law_2381 ?_
  refine v_lor g d_La_law_2382 ?_
  refine v_callI (r_V (rest := [.int q69.1]) [.int (xs (Int32.toNatClampNeg (v3 + (1 : Int32)))), .int (xs (Int32.toNatClampNeg (v3 + (2 : Int32)))), .int (xs (Int32.toNatClampNeg (v3 + (3 : Int32)))), .long ((lsh (Int32.toInt64 (xs (Int32.toNatClampNeg (v3 + (4 : Int32))))) (32 : Int32)) ||| ((Int32.toInt64 (xs (Int32.toNatClampNeg (v3 + (5 : Int32))))) &&& (4294967295 : Int64)))] g (m1 1527 (by decide +kernel) (by decide +kernel)) yv_Mo_handBound rfl (fun r σ1 h => sp_Mo_handBound g.2.2.1  h) rfl rfl (by decide) (Nat.le_of_ble_eq_true rfl) d_La_law_2383) (fun q70 => ?_)
  refine v_icmp_eq 2686 g d_La_law_2386 (by decide) (fun _ => ?_) (fun _ => ?_)
  · exact v_sub [0,1,2,3] rfl (vB_La_law_2686 hX g hk18 v3 q70.2)
  · refine v_iconst (v := (0 : Int32)) g d_La_law_2389 (by decide +kernel) ?_
    exact v_ret d_La_law_2390 rfl
theorem d_La_law_2391 : decode code 2391 = .ok (.aload_n 1, 1) := by decide +kernel
theorem d_La_law_2392 : decode code 2392 = .ok (.aload_n 0, 1) := by decide +kernel
theorem d_La_law_2393 : decode code 2393 = .ok (.iload_n 3, 1) := by decide +kernel
theorem d_La_law_2394 : decode code 2394 = .ok (.iconst 1, 1) := by decide +kernel
theorem d_La_law_2395 : decode code 2395 = .ok (.iadd, 1) := by decide +kernel
theorem d_La_law_2396 : decode code 2396 = .ok (.iaload, 1) := by decide +kernel
theorem d_La_law_2397 : decode code 2397 = .ok (.aload_n 0, 1) := by decide +kernel
theorem d_La_law_2398 : decode code 2398 = .ok (.iload_n 3, 1) := by decide +kernel
theorem d_La_law_2399 : decode code 2399 = .ok (.iconst 2, 1) := by decide +kernel
theorem d_La_law_2400 : decode code 2400 = .ok (.iadd, 1) := by decide +kernel
theorem d_La_law_2401 : decode code 2401 = .ok (.iaload, 1) := by decide +kernel
theorem d_La_law_2402 : decode code 2402 = .ok (.i2l, 1) := by decide +kernel
theorem d_La_law_2403 : decode code 2403 = .ok (.bipush 32, 2) := by decide +kernel
theorem d_La_law_2405 : decode code 2405 = .ok (.lshl, 1) := by decide +kernel
theorem d_La_law_2406 : decode code 2406 = .ok (.aload_n 0, 1) := by decide +kernel
theorem d_La_law_2407 : decode code 2407 = .ok (.iload_n 3, 1) := by decide +kernel
theorem d_La_law_2408 : decode code 2408 = .ok (.iconst 3, 1) := by decide +kernel
theorem d_La_law_2409 : decode code 2409 = .ok (.iadd, 1) := by decide +kernel
theorem d_La_law_2410 : decode code 2410 = .ok (.iaload, 1) := by decide +kernel
theorem d_La_law_2411 : decode code 2411 = .ok (.i2l, 1) := by decide +kernel
theorem d_La_law_2412 : decode code 2412 = .ok (.ldc2_w 35, 3) := by decide +kernel
theorem d_La_law_2415 : decode code 2415 = .ok (.land, 1) := by decide +kernel
theorem d_La_law_2416 : decode code 2416 = .ok (.lor, 1) := by decide +kernel
theorem d_La_law_2417 : decode code 2417 = .ok (.invokevirtual 173, 3) := by decide +kernel
theorem d_La_law_2420 : decode code 2420 = .ok (.aload_n 2, 1) := by decide +kernel
theorem d_La_law_2421 : decode code 2421 = .ok (.aload_n 0, 1) := by decide +kernel
theorem d_La_law_2422 : decode code 2422 = .ok (.iload_n 3, 1) := by decide +kernel
theorem d_La_law_2423 : decode code 2423 = .ok (.iconst 1, 1) := by decide +kernel
theorem d_La_law_2424 : decode code 2424 = .ok (.iadd, 1) := by decide +kernel
theorem d_La_law_2425 : decode code 2425 = .ok (.iaload, 1) := by decide +kernel
theorem d_La_law_2426 : decode code 2426 = .ok (.aload_n 0, 1) := by decide +kernel
theorem d_La_law_2427 : decode code 2427 = .ok (.iload_n 3, 1) := by decide +kernel
theorem d_La_law_2428 : decode code 2428 = .ok (.iconst 2, 1) := by decide +kernel
theorem d_La_law_2429 : decode code 2429 = .ok (.iadd, 1) := by decide +kernel
theorem d_La_law_2430 : decode code 2430 = .ok (.iaload, 1) := by decide +kernel
theorem d_La_law_2431 : decode code 2431 = .ok (.i2l, 1) := by decide +kernel
theorem d_La_law_2432 : decode code 2432 = .ok (.bipush 32, 2) := by decide +kernel
theorem d_La_law_2434 : decode code 2434 = .ok (.lshl, 1) := by decide +kernel
theorem d_La_law_2435 : decode code 2435 = .ok (.aload_n 0, 1) := by decide +kernel
theorem d_La_law_2436 : decode code 2436 = .ok (.iload_n 3, 1) := by decide +kernel
theorem d_La_law_2437 : decode code 2437 = .ok (.iconst 3, 1) := by decide +kernel
theorem d_La_law_2438 : decode code 2438 = .ok (.iadd, 1) := by decide +kernel
theorem d_La_law_2439 : decode code 2439 = .ok (.iaload, 1) := by decide +kernel
theorem d_La_law_2440 : decode code 2440 = .ok (.i2l, 1) := by decide +kernel
theorem d_La_law_2441 : decode code 2441 = .ok (.ldc2_w 35, 3) := by decide +kernel
theorem d_La_law_2444 : decode code 2444 = .ok (.land, 1) := by decide +kernel
theorem d_La_law_2445 : decode code 2445 = .ok (.lor, 1) := by decide +kernel
theorem d_La_law_2446 : decode code 2446 = .ok (.invokevirtual 176, 3) := by decide +kernel
theorem d_La_law_2449 : decode code 2449 = .ok (.lcmp, 1) := by decide +kernel
theorem d_La_law_2450 : decode code 2450 = .ok (.ifCond .eq 236, 3) := by decide +kernel
theorem d_La_law_2453 : decode code 2453 = .ok (.iconst 0, 1) := by decide +kernel
theorem d_La_law_2454 : decode code 2454 = .ok (.ireturn, 1) := by decide +kernel
def B_La_law_2391 (L : Nat) (xs : Nat → Int32) (k18 : Int32 → Sto → Option (Bool × Sto)) (v3 : Int32) (σ : Sto) : Option (Bool × Sto) :=
  (if inb (v3 + (1 : Int32)) L = true then (if inb (v3 + (2 : Int32)) L = true then (if inb (v3 + (3 : Int32)) L = true then ((f_FR_handLess (xs (Int32.toNatClampNeg (v3 + (1 : Int32)))) ((lsh (Int32.toInt64 (xs (Int32.toNatClampNeg (v3 + (2 : Int32))))) (32 : Int32)) ||| ((Int32.toInt64 (xs (Int32.toNatClampNeg (v3 + (3 : Int32))))) &&& (4294967295 : Int64))) σ).bind fun q71 => (if inb (v3 + (1 : Int32)) L = true then (if inb (v3 + (2 : Int32)) L = true then (if inb (v3 + (3 : Int32)) L = true then ((f_Mo_handLess (xs (Int32.toNatClampNeg (v3 + (1 : Int32)))) ((lsh (Int32.toInt64 (xs (Int32.toNatClampNeg (v3 + (2 : Int32))))) (32 : Int32)) ||| ((Int32.toInt64 (xs (Int32.toNatClampNeg (v3 + (3 : Int32))))) &&& (4294967295 : Int64))) q71.2).bind fun q72 => (if q71.1 = q72.1 then B_La_law_2686 L xs k18 v3 q72.2
 else some (false, q72.2))) else none) else none) else none)) else none) else none) else none)
set_option maxHeartbeats 4000000 in
set_option maxRecDepth 100000 in
theorem vB_La_law_2391 {X : Xt} {E : En} {L : Nat} {xs : Nat → Int32} (hX : SX X E L xs) (g : GG X E 200 code R_La 4) {k18 : Int32 → Sto → Option (Bool × Sto)} (hk18 : ∀ (v3 : Int32) (σ : Sto), VV X E code 4 eB 18 [(0, .ref (E.2.1 999)), (1, .ref (E.2.1 0)), (2, .ref (E.2.1 48)), (3, .int v3)] [] σ (k18 v3 σ)) (v3 : Int32) (σ : Sto) : VV X E code 4 eB 2391 [(0, .ref (E.2.1 999)), (1, .ref (E.2.1 0)), (2, .ref (E.2.1 48)), (3, .int v3)] [] σ (B_La_law_2391 L xs k18 v3 σ) := by
  unfold B_La_law_2391
  refine v_aload_n 1 g d_La_law_2391 rfl ?_
  refine v_aload_n 0 g d_La_law_2392 rfl ?_
  refine v_iload_n 3 g d_La_law_2393 rfl ?_
  refine v_iconst (v := (1 : Int32)) g d_La_law_2394 (by decide +kernel) ?_
  refine v_iadd g d_La_law_2395 ?_
  refine v_sld hX g d_La_law_2396 (fun _ => ?_)
  refine v_aload_n 0 g d_La_law_2397 rfl ?_
  refine v_iload_n 3 g d_La_law_2398 rfl ?_
  refine v_iconst (v := (2 : Int32)) g d_La_law_2399 (by decide +kernel) ?_
  refine v_iadd g d_La_law_2400 ?_
  refine v_sld hX g d_La_law_2401 (fun _ => ?_)
  refine v_i2l g d_La_law_2402 ?_
  refine v_bipush (v := (32 : Int32)) g d_La_law_2403 (by decide +kernel) ?_
  refine v_lshl g d_La_law_2405 ?_
  refine v_aload_n 0 g d_La_law_2406 rfl ?_
  refine v_iload_n 3 g d_La_law_2407 rfl ?_
  refine v_iconst (v := (3 : Int32)) g d_La_law_2408 (by decide +kernel) ?_
  refine v_iadd g d_La_law_2409 ?_
  refine v_sld hX g d_La_law_2410 (fun _ => ?_)
  refine v_i2l g d_La_law_2411 ?_
  refine v_ldc2 (v := (4294967295 : Int64)) g (m1 1567 (by decide +kernel) (by decide +kernel)) d_La_law_2412 ?_
  refine v_land g d_La_law_2415 ?_
  refine v_lor g d_La_law_2416 ?_
  refine v_callL (r_V (rest := []) [.int (xs (Int32.toNatClampNeg (v3 + (1 : Int32)))), .long ((lsh (Int32.toInt64 (xs (Int32.toNatClampNeg (v3 + (2 : Int32))))) (32 : Int32)) ||| ((Int32.toInt64 (xs (Int32.toNatClampNeg (v3 + (3 : Int32))))) &&& (4294967295 : Int64)))] g (m1 1000 (by decide +kernel) (by decide +kernel)) yv_FR_handLess rfl (fun r σ1 h => sp_FR_handLess g.2.2.1  h) rfl rfl (by decide) (Nat.le_of_ble_eq_true rfl) d_La_law_2417) (fun q71 => ?_)
  refine v_aload_n 2 g d_La_law_2420 rfl ?_
  refine v_aload_n 0 g d_La_law_2421 rfl ?_
  refine v_iload_n 3 g d_La_law_2422 rfl ?_
  refine v_iconst (v := (1 : Int32)) g d_La_law_2423 (by decide +kernel) ?_
  refine v_iadd g d_La_law_2424 ?_
  refine v_sld hX g d_La_law_2425 (fun _ => ?_)
  refine v_aload_n 0 g d_La_law_2426 rfl ?_
  refine v_iload_n 3 g d_La_law_2427 rfl ?_
  refine v_iconst (v := (2 : Int32)) g d_La_law_2428 (by decide +kernel) ?_
  refine v_iadd g d_La_law_2429 ?_
  refine v_sld hX g d_La_law_2430 (fun _ => ?_)
  refine v_i2l g d_La_law_2431 ?_
  refine v_bipush (v := (32 : Int32)) g d_La_law_2432 (by decide +kernel) ?_
  refine v_lshl g d_La_law_2434 ?_
  refine v_aload_n 0 g d_La_law_2435 rfl ?_
  refine v_iload_n 3 g d_La_law_2436 rfl ?_
  refine v_iconst (v := (3 : Int32)) g d_La_law_2437 (by decide +kernel) ?_
  refine v_iadd g d_La_law_2438 ?_
  refine v_sld hX g d_La_law_2439 (fun _ => ?_)
  refine v_i2l g d_La_law_2440 ?_
  refine v_ldc2 (v := (4294967295 : Int64)) g (m1 1567 (by decide +kernel) (by decide +kernel)) d_La_law_2441 ?_
  refine v_land g d_La_law_2444 ?_
  refine v_lor g d_La_law_2445 ?_
  refine v_callL (r_V (rest := [.long q71.1]) [.int (xs (Int32.toNatClampNeg (v3 + (1 : Int32)))), .long ((lsh (Int32.toInt64 (xs (Int32.toNatClampNeg (v3 + (2 : Int32))))) (32 : Int32)) ||| ((Int32.toInt64 (xs (Int32.toNatClampNeg (v3 + (3 : Int32))))) &&& (4294967295 : Int64)))] g (m1 1531 (by decide +kernel) (by decide +kernel)) yv_Mo_handLess rfl (fun r σ1 h => sp_Mo_handLess g.2.2.1  h) rfl rfl (by decide) (Nat.le_of_ble_eq_true rfl) d_La_law_2446) (fun q72 => ?_)
  refine v_lcmp_eq 2686 g d_La_law_2449 d_La_law_2450 (by decide) (fun _ => ?_) (fun _ => ?_)
  · exact v_sub [0,1,2,3] rfl (vB_La_law_2686 hX g hk18 v3 q72.2)
  · refine v_iconst (v := (0 : Int32)) g d_La_law_2453 (by decide +kernel) ?_
    exact v_ret d_La_law_2454 rfl
theorem d_La_law_2455 : decode code 2455 = .ok (.aload_n 1, 1) := by decide +kernel
theorem d_La_law_2456 : decode code 2456 = .ok (.aload_n 0, 1) := by decide +kernel
theorem d_La_law_2457 : decode code 2457 = .ok (.iload_n 3, 1) := by decide +kernel
theorem d_La_law_2458 : decode code 2458 = .ok (.iconst 1, 1) := by decide +kernel
theorem d_La_law_2459 : decode code 2459 = .ok (.iadd, 1) := by decide +kernel
theorem d_La_law_2460 : decode code 2460 = .ok (.iaload, 1) := by decide +kernel
theorem d_La_law_2461 : decode code 2461 = .ok (.aload_n 0, 1) := by decide +kernel
theorem d_La_law_2462 : decode code 2462 = .ok (.iload_n 3, 1) := by decide +kernel
theorem d_La_law_2463 : decode code 2463 = .ok (.iconst 2, 1) := by decide +kernel
theorem d_La_law_2464 : decode code 2464 = .ok (.iadd, 1) := by decide +kernel
theorem d_La_law_2465 : decode code 2465 = .ok (.iaload, 1) := by decide +kernel
theorem d_La_law_2466 : decode code 2466 = .ok (.aload_n 0, 1) := by decide +kernel
theorem d_La_law_2467 : decode code 2467 = .ok (.iload_n 3, 1) := by decide +kernel
theorem d_La_law_2468 : decode code 2468 = .ok (.iconst 3, 1) := by decide +kernel
theorem d_La_law_2469 : decode code 2469 = .ok (.iadd, 1) := by decide +kernel
theorem d_La_law_2470 : decode code 2470 = .ok (.iaload, 1) := by decide +kernel
theorem d_La_law_2471 : decode code 2471 = .ok (.invokevirtual 177, 3) := by decide +kernel
theorem d_La_law_2474 : decode code 2474 = .ok (.aload_n 2, 1) := by decide +kernel
theorem d_La_law_2475 : decode code 2475 = .ok (.aload_n 0, 1) := by decide +kernel
theorem d_La_law_2476 : decode code 2476 = .ok (.iload_n 3, 1) := by decide +kernel
theorem d_La_law_2477 : decode code 2477 = .ok (.iconst 1, 1) := by decide +kernel
theorem d_La_law_2478 : decode code 2478 = .ok (.iadd, 1) := by decide +kernel
theorem d_La_law_2479 : decode code 2479 = .ok (.iaload, 1) := by decide +kernel
theorem d_La_law_2480 : decode code 2480 = .ok (.aload_n 0, 1) := by decide +kernel
theorem d_La_law_2481 : decode code 2481 = .ok (.iload_n 3, 1) := by decide +kernel
theorem d_La_law_2482 : decode code 2482 = .ok (.iconst 2, 1) := by decide +kernel
theorem d_La_law_2483 : decode code 2483 = .ok (.iadd, 1) := by decide +kernel
theorem d_La_law_2484 : decode code 2484 = .ok (.iaload, 1) := by decide +kernel
theorem d_La_law_2485 : decode code 2485 = .ok (.aload_n 0, 1) := by decide +kernel
theorem d_La_law_2486 : decode code 2486 = .ok (.iload_n 3, 1) := by decide +kernel
theorem d_La_law_2487 : decode code 2487 = .ok (.iconst 3, 1) := by decide +kernel
theorem d_La_law_2488 : decode code 2488 = .ok (.iadd, 1) := by decide +kernel
theorem d_La_law_2489 : decode code 2489 = .ok (.iaload, 1) := by decide +kernel
theorem d_La_law_2490 : decode code 2490 = .ok (.invokevirtual 180, 3) := by decide +kernel
theorem d_La_law_2493 : decode code 2493 = .ok (.if_icmp .eq 193, 3) := by decide +kernel
theorem d_La_law_2496 : decode code 2496 = .ok (.iconst 0, 1) := by decide +kernel
theorem d_La_law_2497 : decode code 2497 = .ok (.ireturn, 1) := by decide +kernel
def B_La_law_2455 (L : Nat) (xs : Nat → Int32) (k18 : Int32 → Sto → Option (Bool × Sto)) (v3 : Int32) (σ : Sto) : Option (Bool × Sto) :=
  (if inb (v3 + (1 : Int32)) L = true then (if inb (v3 + (2 : Int32)) L = true then (if inb (v3 + (3 : Int32)) L = true then ((f_FR_sheet (xs (Int32.toNatClampNeg (v3 + (1 : Int32)))) (xs (Int32.toNatClampNeg (v3 + (2 : Int32)))) (xs (Int32.toNatClampNeg (v3 + (3 : Int32)))) σ).bind fun q73 => (if inb (v3 + (1 : Int32)) L = true then (if inb (v3 + (2 : Int32)) L = true then (if inb (v3 + (3 : Int32)) L = true then ((f_Mo_sheet (xs (Int32.toNatClampNeg (v3 + (1 : Int32)))) (xs (Int32.toNatClampNeg (v3 + (2 : Int32)))) (xs (Int32.toNatClampNeg (v3 + (3 : Int32)))) q73.2).bind fun q74 => (if q73.1 = q74.1 then B_La_law_2686 L xs k18 v3 q74.2
 else some (false, q74.2))) else none) else none) else none)) else none) else none) else none)
set_option maxHeartbeats 4000000 in
set_option maxRecDepth 100000 in
theorem vB_La_law_2455 {X : Xt} {E : En} {L : Nat} {xs : Nat → Int32} (hX : SX X E L xs) (g : GG X E 200 code R_La 4) {k18 : Int32 → Sto → Option (Bool × Sto)} (hk18 : ∀ (v3 : Int32) (σ : Sto), VV X E code 4 eB 18 [(0, .ref (E.2.1 999)), (1, .ref (E.2.1 0)), (2, .ref (E.2.1 48)), (3, .int v3)] [] σ (k18 v3 σ)) (v3 : Int32) (σ : Sto) : VV X E code 4 eB 2455 [(0, .ref (E.2.1 999)), (1, .ref (E.2.1 0)), (2, .ref (E.2.1 48)), (3, .int v3)] [] σ (B_La_law_2455 L xs k18 v3 σ) := by
  unfold B_La_law_2455
  refine v_aload_n 1 g d_La_law_2455 rfl ?_
  refine v_aload_n 0 g d_La_law_2456 rfl ?_
  refine v_iload_n 3 g d_La_law_2457 rfl ?_
  refine v_iconst (v := (1 : Int32)) g d_La_law_2458 (by decide +kernel) ?_
  refine v_iadd g d_La_law_2459 ?_
  refine v_sld hX g d_La_law_2460 (fun _ => ?_)
  refine v_aload_n 0 g d_La_law_2461 rfl ?_
  refine v_iload_n 3 g d_La_law_2462 rfl ?_
  refine v_iconst (v := (2 : Int32)) g d_La_law_2463 (by decide +kernel) ?_
  refine v_iadd g d_La_law_2464 ?_
  refine v_sld hX g d_La_law_2465 (fun _ => ?_)
  refine v_aload_n 0 g d_La_law_2466 rfl ?_
  refine v_iload_n 3 g d_La_law_2467 rfl ?_
  refine v_iconst (v := (3 : Int32)) g d_La_law_2468 (by decide +kernel) ?_
  refine v_iadd g d_La_law_2469 ?_
  refine v_sld hX g d_La_law_2470 (fun _ => ?_)
  refine v_callI (r_V (rest := []) [.int (xs (Int32.toNatClampNeg (v3 + (1 : Int32)))), .int (xs (Int32.toNatClampNeg (v3 + (2 : Int32)))), .int (xs (Int32.toNatClampNeg (v3 + (3 : Int32))))] g (m1 1004 (by decide +kernel) (by decide +kernel)) yv_FR_sheet rfl (fun r σ1 h => sp_FR_sheet g.2.2.1  h) rfl rfl (by decide) (Nat.le_of_ble_eq_true rfl) d_La_law_2471) (fun q73 => ?_)
  refine v_aload_n 2 g d_La_law_2474 rfl ?_
  refine v_aload_n 0 g d_La_law_2475 rfl ?_
  refine v_iload_n 3 g d_La_law_2476 rfl ?_
  refine v_iconst (v := (1 : Int32)) g d_La_law_2477 (by decide +kernel) ?_
  refine v_iadd g d_La_law_2478 ?_
  refine v_sld hX g d_La_law_2479 (fun _ => ?_)
  refine v_aload_n 0 g d_La_law_2480 rfl ?_
  refine v_iload_n 3 g d_La_law_2481 rfl ?_
  refine v_iconst (v := (2 : Int32)) g d_La_law_2482 (by decide +kernel) ?_
  refine v_iadd g d_La_law_2483 ?_
  refine v_sld hX g d_La_law_2484 (fun _ => ?_)
  refine v_aload_n 0 g d_La_law_2485 rfl ?_
  refine v_iload_n 3 g d_La_law_2486 rfl ?_
  refine v_iconst (v := (3 : Int32)) g d_La_law_2487 (by decide +kernel) ?_
  refine v_iadd g d_La_law_2488 ?_
  refine v_sld hX g d_La_law_2489 (fun _ => ?_)
  refine v_callI (r_V (rest := [.int q73.1]) [.int (xs (Int32.toNatClampNeg (v3 + (1 : Int32)))), .int (xs (Int32.toNatClampNeg (v3 + (2 : Int32)))), .int (xs (Int32.toNatClampNeg (v3 + (3 : Int32))))] g (m1 1535 (by decide +kernel) (by decide +kernel)) yv_Mo_sheet rfl (fun r σ1 h => sp_Mo_sheet g.2.2.1  h) rfl rfl (by decide) (Nat.le_of_ble_eq_true rfl) d_La_law_2490) (fun q74 => ?_)
  refine v_icmp_eq 2686 g d_La_law_2493 (by decide) (fun _ => ?_) (fun _ => ?_)
  · exact v_sub [0,1,2,3] rfl (vB_La_law_2686 hX g hk18 v3 q74.2)
  · refine v_iconst (v := (0 : Int32)) g d_La_law_2496 (by decide +kernel) ?_
    exact v_ret d_La_law_2497 rfl
theorem d_La_law_2498 : decode code 2498 = .ok (.aload_n 1, 1) := by decide +kernel
theorem d_La_law_2499 : decode code 2499 = .ok (.aload_n 0, 1) := by decide +kernel
theorem d_La_law_2500 : decode code 2500 = .ok (.iload_n 3, 1) := by decide +kernel
theorem d_La_law_2501 : decode code 2501 = .ok (.iconst 1, 1) := by decide +kernel
theorem d_La_law_2502 : decode code 2502 = .ok (.iadd, 1) := by decide +kernel
theorem d_La_law_2503 : decode code 2503 = .ok (.iaload, 1) := by decide +kernel
theorem d_La_law_2504 : decode code 2504 = .ok (.aload_n 0, 1) := by decide +kernel
theorem d_La_law_2505 : decode code 2505 = .ok (.iload_n 3, 1) := by decide +kernel
theorem d_La_law_2506 : decode code 2506 = .ok (.iconst 2, 1) := by decide +kernel
theorem d_La_law_2507 : decode code 2507 = .ok (.iadd, 1) := by decide +kernel
theorem d_La_law_2508 : decode code 2508 = .ok (.iaload, 1) := by decide +kernel
theorem d_La_law_2509 : decode code 2509 = .ok (.aload_n 0, 1) := by decide +kernel
theorem d_La_law_2510 : decode code 2510 = .ok (.iload_n 3, 1) := by decide +kernel
theorem d_La_law_2511 : decode code 2511 = .ok (.iconst 3, 1) := by decide +kernel
theorem d_La_law_2512 : decode code 2512 = .ok (.iadd, 1) := by decide +kernel
theorem d_La_law_2513 : decode code 2513 = .ok (.iaload, 1) := by decide +kernel
theorem d_La_law_2514 : decode code 2514 = .ok (.invokevirtual 181, 3) := by decide +kernel
theorem d_La_law_2517 : decode code 2517 = .ok (.aload_n 2, 1) := by decide +kernel
theorem d_La_law_2518 : decode code 2518 = .ok (.aload_n 0, 1) := by decide +kernel
theorem d_La_law_2519 : decode code 2519 = .ok (.iload_n 3, 1) := by decide +kernel
theorem d_La_law_2520 : decode code 2520 = .ok (.iconst 1, 1) := by decide +kernel
theorem d_La_law_2521 : decode code 2521 = .ok (.iadd, 1) := by decide +kernel
theorem d_La_law_2522 : decode code 2522 = .ok (.iaload, 1) := by decide +kernel
theorem d_La_law_2523 : decode code 2523 = .ok (.aload_n 0, 1) := by decide +kernel
theorem d_La_law_2524 : decode code 2524 = .ok (.iload_n 3, 1) := by decide +kernel
theorem d_La_law_2525 : decode code 2525 = .ok (.iconst 2, 1) := by decide +kernel
theorem d_La_law_2526 : decode code 2526 = .ok (.iadd, 1) := by decide +kernel
theorem d_La_law_2527 : decode code 2527 = .ok (.iaload, 1) := by decide +kernel
theorem d_La_law_2528 : decode code 2528 = .ok (.aload_n 0, 1) := by decide +kernel
theorem d_La_law_2529 : decode code 2529 = .ok (.iload_n 3, 1) := by decide +kernel
theorem d_La_law_2530 : decode code 2530 = .ok (.iconst 3, 1) := by decide +kernel
theorem d_La_law_2531 : decode code 2531 = .ok (.iadd, 1) := by decide +kernel
theorem d_La_law_2532 : decode code 2532 = .ok (.iaload, 1) := by decide +kernel
theorem d_La_law_2533 : decode code 2533 = .ok (.invokevirtual 184, 3) := by decide +kernel
theorem d_La_law_2536 : decode code 2536 = .ok (.if_icmp .eq 150, 3) := by decide +kernel
theorem d_La_law_2539 : decode code 2539 = .ok (.iconst 0, 1) := by decide +kernel
theorem d_La_law_2540 : decode code 2540 = .ok (.ireturn, 1) := by decide +kernel
def B_La_law_2498 (L : Nat) (xs : Nat → Int32) (k18 : Int32 → Sto → Option (Bool × Sto)) (v3 : Int32) (σ : Sto) : Option (Bool × Sto) :=
  (if inb (v3 + (1 : Int32)) L = true then (if inb (v3 + (2 : Int32)) L = true then (if inb (v3 + (3 : Int32)) L = true then ((f_FR_cell (xs (Int32.toNatClampNeg (v3 + (1 : Int32)))) (xs (Int32.toNatClampNeg (v3 + (2 : Int32)))) (xs (Int32.toNatClampNeg (v3 + (3 : Int32)))) σ).bind fun q75 => (if inb (v3 + (1 : Int32)) L = true then (if inb (v3 + (2 : Int32)) L = true then (if inb (v3 + (3 : Int32)) L = true then ((f_Mo_cell (xs (Int32.toNatClampNeg (v3 + (1 : Int32)))) (xs (Int32.toNatClampNeg (v3 + (2 : Int32)))) (xs (Int32.toNatClampNeg (v3 + (3 : Int32)))) q75.2).bind fun q76 => (if q75.1 = q76.1 then B_La_law_2686 L xs k18 v3 q76.2
 else some (false, q76.2))) else none) else none) else none)) else none) else none) else none)
set_option maxHeartbeats 4000000 in
set_option maxRecDepth 100000 in
theorem vB_La_law_2498 {X : Xt} {E : En} {L : Nat} {xs : Nat → Int32} (hX : SX X E L xs) (g : GG X E 200 code R_La 4) {k18 : Int32 → Sto → Option (Bool × Sto)} (hk18 : ∀ (v3 : Int32) (σ : Sto), VV X E code 4 eB 18 [(0, .ref (E.2.1 999)), (1, .ref (E.2.1 0)), (2, .ref (E.2.1 48)), (3, .int v3)] [] σ (k18 v3 σ)) (v3 : Int32) (σ : Sto) : VV X E code 4 eB 2498 [(0, .ref (E.2.1 999)), (1, .ref (E.2.1 0)), (2, .ref (E.2.1 48)), (3, .int v3)] [] σ (B_La_law_2498 L xs k18 v3 σ) := by
  unfold B_La_law_2498
  refine v_aload_n 1 g d_La_law_2498 rfl ?_
  refine v_aload_n 0 g d_La_law_2499 rfl ?_
  refine v_iload_n 3 g d_La_law_2500 rfl ?_
  refine v_iconst (v := (1 : Int32)) g d_La_law_2501 (by decide +kernel) ?_
  refine v_iadd g d_La_law_2502 ?_
  refine v_sld hX g d_La_law_2503 (fun _ => ?_)
  refine v_aload_n 0 g d_La_law_2504 rfl ?_
  refine v_iload_n 3 g d_La_law_2505 rfl ?_
  refine v_iconst (v := (2 : Int32)) g d_La_law_2506 (by decide +kernel) ?_
  refine v_iadd g d_La_law_2507 ?_
  refine v_sld hX g d_La_law_2508 (fun _ => ?_)
  refine v_aload_n 0 g d_La_law_2509 rfl ?_
  refine v_iload_n 3 g d_La_law_2510 rfl ?_
  refine v_iconst (v := (3 : Int32)) g d_La_law_2511 (by decide +kernel) ?_
  refine v_iadd g d_La_law_2512 ?_
  refine v_sld hX g d_La_law_2513 (fun _ => ?_)
  refine v_callI (r_V (rest := []) [.int (xs (Int32.toNatClampNeg (v3 + (1 : Int32)))), .int (xs (Int32.toNatClampNeg (v3 + (2 : Int32)))), .int (xs (Int32.toNatClampNeg (v3 + (3 : Int32))))] g (m1 1008 (by decide +kernel) (by decide +kernel)) yv_FR_cell rfl (fun r σ1 h => sp_FR_cell g.2.2.1  h) rfl rfl (by decide) (Nat.le_of_ble_eq_true rfl) d_La_law_2514) (fun q75 => ?_)
  refine v_aload_n 2 g d_La_law_2517 rfl ?_
  refine v_aload_n 0 g d_La_law_2518 rfl ?_
  refine v_iload_n 3 g d_La_law_2519 rfl ?_
  refine v_iconst (v := (1 : Int32)) g d_La_law_2520 (by decide +kernel) ?_
  refine v_iadd g d_La_law_2521 ?_
  refine v_sld hX g d_La_law_2522 (fun _ => ?_)
  refine v_aload_n 0 g d_La_law_2523 rfl ?_
  refine v_iload_n 3 g d_La_law_2524 rfl ?_
  refine v_iconst (v := (2 : Int32)) g d_La_law_2525 (by decide +kernel) ?_
  refine v_iadd g d_La_law_2526 ?_
  refine v_sld hX g d_La_law_2527 (fun _ => ?_)
  refine v_aload_n 0 g d_La_law_2528 rfl ?_
  refine v_iload_n 3 g d_La_law_2529 rfl ?_
  refine v_iconst (v := (3 : Int32)) g d_La_law_2530 (by decide +kernel) ?_
  refine v_iadd g d_La_law_2531 ?_
  refine v_sld hX g d_La_law_2532 (fun _ => ?_)
  refine v_callI (r_V (rest := [.int q75.1]) [.int (xs (Int32.toNatClampNeg (v3 + (1 : Int32)))), .int (xs (Int32.toNatClampNeg (v3 + (2 : Int32)))), .int (xs (Int32.toNatClampNeg (v3 + (3 : Int32))))] g (m1 1539 (by decide +kernel) (by decide +kernel)) yv_Mo_cell rfl (fun r σ1 h => sp_Mo_cell g.2.2.1  h) rfl rfl (by decide) (Nat.le_of_ble_eq_true rfl) d_La_law_2533) (fun q76 => ?_)
  refine v_icmp_eq 2686 g d_La_law_2536 (by decide) (fun _ => ?_) (fun _ => ?_)
  · exact v_sub [0,1,2,3] rfl (vB_La_law_2686 hX g hk18 v3 q76.2)
  · refine v_iconst (v := (0 : Int32)) g d_La_law_2539 (by decide +kernel) ?_
    exact v_ret d_La_law_2540 rfl
theorem d_La_law_2541 : decode code 2541 = .ok (.aload_n 1, 1) := by decide +kernel
theorem d_La_law_2542 : decode code 2542 = .ok (.aload_n 0, 1) := by decide +kernel
theorem d_La_law_2543 : decode code 2543 = .ok (.iload_n 3, 1) := by decide +kernel
theorem d_La_law_2544 : decode code 2544 = .ok (.iconst 1, 1) := by decide +kernel
theorem d_La_law_2545 : decode code 2545 = .ok (.iadd, 1) := by decide +kernel
theorem d_La_law_2546 : decode code 2546 = .ok (.iaload, 1) := by decide +kernel
theorem d_La_law_2547 : decode code 2547 = .ok (.aload_n 0, 1) := by decide +kernel
theorem d_La_law_2548 : decode code 2548 = .ok (.iload_n 3, 1) := by decide +kernel
theorem d_La_law_2549 : decode code 2549 = .ok (.iconst 2, 1) := by decide +kernel
theorem d_La_law_2550 : decode code 2550 = .ok (.iadd, 1) := by decide +kernel
theorem d_La_law_2551 : decode code 2551 = .ok (.iaload, 1) := by decide +kernel
theorem d_La_law_2552 : decode code 2552 = .ok (.invokevirtual 185, 3) := by decide +kernel
theorem d_La_law_2555 : decode code 2555 = .ok (.aload_n 2, 1) := by decide +kernel
theorem d_La_law_2556 : decode code 2556 = .ok (.aload_n 0, 1) := by decide +kernel
theorem d_La_law_2557 : decode code 2557 = .ok (.iload_n 3, 1) := by decide +kernel
theorem d_La_law_2558 : decode code 2558 = .ok (.iconst 1, 1) := by decide +kernel
theorem d_La_law_2559 : decode code 2559 = .ok (.iadd, 1) := by decide +kernel
theorem d_La_law_2560 : decode code 2560 = .ok (.iaload, 1) := by decide +kernel
theorem d_La_law_2561 : decode code 2561 = .ok (.aload_n 0, 1) := by decide +kernel
theorem d_La_law_2562 : decode code 2562 = .ok (.iload_n 3, 1) := by decide +kernel
theorem d_La_law_2563 : decode code 2563 = .ok (.iconst 2, 1) := by decide +kernel
theorem d_La_law_2564 : decode code 2564 = .ok (.iadd, 1) := by decide +kernel
theorem d_La_law_2565 : decode code 2565 = .ok (.iaload, 1) := by decide +kernel
theorem d_La_law_2566 : decode code 2566 = .ok (.invokevirtual 188, 3) := by decide +kernel
theorem d_La_law_2569 : decode code 2569 = .ok (.if_icmp .eq 117, 3) := by decide +kernel
theorem d_La_law_2572 : decode code 2572 = .ok (.iconst 0, 1) := by decide +kernel
theorem d_La_law_2573 : decode code 2573 = .ok (.ireturn, 1) := by decide +kernel
def B_La_law_2541 (L : Nat) (xs : Nat → Int32) (k18 : Int32 → Sto → Option (Bool × Sto)) (v3 : Int32) (σ : Sto) : Option (Bool × Sto) :=
  (if inb (v3 + (1 : Int32)) L = true then (if inb (v3 + (2 : Int32)) L = true then ((f_FR_read (xs (Int32.toNatClampNeg (v3 + (1 : Int32)))) (xs (Int32.toNatClampNeg (v3 + (2 : Int32)))) σ).bind fun q77 => (if inb (v3 + (1 : Int32)) L = true then (if inb (v3 + (2 : Int32)) L = true then ((f_Mo_read (xs (Int32.toNatClampNeg (v3 + (1 : Int32)))) (xs (Int32.toNatClampNeg (v3 + (2 : Int32)))) q77.2).bind fun q78 => (if q77.1 = q78.1 then B_La_law_2686 L xs k18 v3 q78.2
 else some (false, q78.2))) else none) else none)) else none) else none)
set_option maxHeartbeats 4000000 in
set_option maxRecDepth 100000 in
theorem vB_La_law_2541 {X : Xt} {E : En} {L : Nat} {xs : Nat → Int32} (hX : SX X E L xs) (g : GG X E 200 code R_La 4) {k18 : Int32 → Sto → Option (Bool × Sto)} (hk18 : ∀ (v3 : Int32) (σ : Sto), VV X E code 4 eB 18 [(0, .ref (E.2.1 999)), (1, .ref (E.2.1 0)), (2, .ref (E.2.1 48)), (3, .int v3)] [] σ (k18 v3 σ)) (v3 : Int32) (σ : Sto) : VV X E code 4 eB 2541 [(0, .ref (E.2.1 999)), (1, .ref (E.2.1 0)), (2, .ref (E.2.1 48)), (3, .int v3)] [] σ (B_La_law_2541 L xs k18 v3 σ) := by
  unfold B_La_law_2541
  refine v_aload_n 1 g d_La_law_2541 rfl ?_
  refine v_aload_n 0 g d_La_law_2542 rfl ?_
  refine v_iload_n 3 g d_La_law_2543 rfl ?_
  refine v_iconst (v := (1 : Int32)) g d_La_law_2544 (by decide +kernel) ?_
  refine v_iadd g d_La_law_2545 ?_
  refine v_sld hX g d_La_law_2546 (fun _ => ?_)
  refine v_aload_n 0 g d_La_law_2547 rfl ?_
  refine v_iload_n 3 g d_La_law_2548 rfl ?_
  refine v_iconst (v := (2 : Int32)) g d_La_law_2549 (by decide +kernel) ?_
  refine v_iadd g d_La_law_2550 ?_
  refine v_sld hX g d_La_law_2551 (fun _ => ?_)
  refine v_callI (r_V (rest := []) [.int (xs (Int32.toNatClampNeg (v3 + (1 : Int32)))), .int (xs (Int32.toNatClampNeg (v3 + (2 : Int32))))] g (m1 1017 (by decide +kernel) (by decide +kernel)) yv_FR_read rfl (fun r σ1 h => sp_FR_read g.2.2.1  h) rfl rfl (by decide) (Nat.le_of_ble_eq_true rfl) d_La_law_2552) (fun q77 => ?_)
  refine v_aload_n 2 g d_La_law_2555 rfl ?_
  refine v_aload_n 0 g d_La_law_2556 rfl ?_
  refine v_iload_n 3 g d_La_law_2557 rfl ?_
  refine v_iconst (v := (1 : Int32)) g d_La_law_2558 (by decide +kernel) ?_
  refine v_iadd g d_La_law_2559 ?_
  refine v_sld hX g d_La_law_2560 (fun _ => ?_)
  refine v_aload_n 0 g d_La_law_2561 rfl ?_
  refine v_iload_n 3 g d_La_law_2562 rfl ?_
  refine v_iconst (v := (2 : Int32)) g d_La_law_2563 (by decide +kernel) ?_
  refine v_iadd g d_La_law_2564 ?_
  refine v_sld hX g d_La_law_2565 (fun _ => ?_)
  refine v_callI (r_V (rest := [.int q77.1]) [.int (xs (Int32.toNatClampNeg (v3 + (1 : Int32)))), .int (xs (Int32.toNatClampNeg (v3 + (2 : Int32))))] g (m1 1547 (by decide +kernel) (by decide +kernel)) yv_Mo_read rfl (fun r σ1 h => sp_Mo_read g.2.2.1  h) rfl rfl (by decide) (Nat.le_of_ble_eq_true rfl) d_La_law_2566) (fun q78 => ?_)
  refine v_icmp_eq 2686 g d_La_law_2569 (by decide) (fun _ => ?_) (fun _ => ?_)
  · exact v_sub [0,1,2,3] rfl (vB_La_law_2686 hX g hk18 v3 q78.2)
  · refine v_iconst (v := (0 : Int32)) g d_La_law_2572 (by decide +kernel) ?_
    exact v_ret d_La_law_2573 rfl
theorem d_La_law_2574 : decode code 2574 = .ok (.aload_n 1, 1) := by decide +kernel
theorem d_La_law_2575 : decode code 2575 = .ok (.aload_n 0, 1) := by decide +kernel
theorem d_La_law_2576 : decode code 2576 = .ok (.iload_n 3, 1) := by decide +kernel
theorem d_La_law_2577 : decode code 2577 = .ok (.iconst 1, 1) := by decide +kernel
theorem d_La_law_2578 : decode code 2578 = .ok (.iadd, 1) := by decide +kernel
theorem d_La_law_2579 : decode code 2579 = .ok (.iaload, 1) := by decide +kernel
theorem d_La_law_2580 : decode code 2580 = .ok (.aload_n 0, 1) := by decide +kernel
theorem d_La_law_2581 : decode code 2581 = .ok (.iload_n 3, 1) := by decide +kernel
theorem d_La_law_2582 : decode code 2582 = .ok (.iconst 2, 1) := by decide +kernel
theorem d_La_law_2583 : decode code 2583 = .ok (.iadd, 1) := by decide +kernel
theorem d_La_law_2584 : decode code 2584 = .ok (.iaload, 1) := by decide +kernel
theorem d_La_law_2585 : decode code 2585 = .ok (.aload_n 0, 1) := by decide +kernel
theorem d_La_law_2586 : decode code 2586 = .ok (.iload_n 3, 1) := by decide +kernel
theorem d_La_law_2587 : decode code 2587 = .ok (.iconst 3, 1) := by decide +kernel
theorem d_La_law_2588 : decode code 2588 = .ok (.iadd, 1) := by decide +kernel
theorem d_La_law_2589 : decode code 2589 = .ok (.iaload, 1) := by decide +kernel
theorem d_La_law_2590 : decode code 2590 = .ok (.aload_n 0, 1) := by decide +kernel
theorem d_La_law_2591 : decode code 2591 = .ok (.iload_n 3, 1) := by decide +kernel
theorem d_La_law_2592 : decode code 2592 = .ok (.iconst 4, 1) := by decide +kernel
theorem d_La_law_2593 : decode code 2593 = .ok (.iadd, 1) := by decide +kernel
theorem d_La_law_2594 : decode code 2594 = .ok (.iaload, 1) := by decide +kernel
theorem d_La_law_2595 : decode code 2595 = .ok (.aload_n 0, 1) := by decide +kernel
theorem d_La_law_2596 : decode code 2596 = .ok (.iload_n 3, 1) := by decide +kernel
theorem d_La_law_2597 : decode code 2597 = .ok (.iconst 5, 1) := by decide +kernel
theorem d_La_law_2598 : decode code 2598 = .ok (.iadd, 1) := by decide +kernel
theorem d_La_law_2599 : decode code 2599 = .ok (.iaload, 1) := by decide +kernel
theorem d_La_law_2600 : decode code 2600 = .ok (.invokevirtual 189, 3) := by decide +kernel
theorem d_La_law_2603 : decode code 2603 = .ok (.aload_n 2, 1) := by decide +kernel
theorem d_La_law_2604 : decode code 2604 = .ok (.aload_n 0, 1) := by decide +kernel
theorem d_La_law_2605 : decode code 2605 = .ok (.iload_n 3, 1) := by decide +kernel
theorem d_La_law_2606 : decode code 2606 = .ok (.iconst 1, 1) := by decide +kernel
theorem d_La_law_2607 : decode code 2607 = .ok (.iadd, 1) := by decide +kernel
theorem d_La_law_2608 : decode code 2608 = .ok (.iaload, 1) := by decide +kernel
theorem d_La_law_2609 : decode code 2609 = .ok (.aload_n 0, 1) := by decide +kernel
theorem d_La_law_2610 : decode code 2610 = .ok (.iload_n 3, 1) := by decide +kernel
theorem d_La_law_2611 : decode code 2611 = .ok (.iconst 2, 1) := by decide +kernel
theorem d_La_law_2612 : decode code 2612 = .ok (.iadd, 1) := by decide +kernel
theorem d_La_law_2613 : decode code 2613 = .ok (.iaload, 1) := by decide +kernel
theorem d_La_law_2614 : decode code 2614 = .ok (.aload_n 0, 1) := by decide +kernel
theorem d_La_law_2615 : decode code 2615 = .ok (.iload_n 3, 1) := by decide +kernel
theorem d_La_law_2616 : decode code 2616 = .ok (.iconst 3, 1) := by decide +kernel
theorem d_La_law_2617 : decode code 2617 = .ok (.iadd, 1) := by decide +kernel
theorem d_La_law_2618 : decode code 2618 = .ok (.iaload, 1) := by decide +kernel
theorem d_La_law_2619 : decode code 2619 = .ok (.aload_n 0, 1) := by decide +kernel
theorem d_La_law_2620 : decode code 2620 = .ok (.iload_n 3, 1) := by decide +kernel
theorem d_La_law_2621 : decode code 2621 = .ok (.iconst 4, 1) := by decide +kernel
theorem d_La_law_2622 : decode code 2622 = .ok (.iadd, 1) := by decide +kernel
theorem d_La_law_2623 : decode code 2623 = .ok (.iaload, 1) := by decide +kernel
theorem d_La_law_2624 : decode code 2624 = .ok (.aload_n 0, 1) := by decide +kernel
theorem d_La_law_2625 : decode code 2625 = .ok (.iload_n 3, 1) := by decide +kernel
theorem d_La_law_2626 : decode code 2626 = .ok (.iconst 5, 1) := by decide +kernel
theorem d_La_law_2627 : decode code 2627 = .ok (.iadd, 1) := by decide +kernel
theorem d_La_law_2628 : decode code 2628 = .ok (.iaload, 1) := by decide +kernel
theorem d_La_law_2629 : decode code 2629 = .ok (.invokevirtual 193, 3) := by decide +kernel
theorem d_La_law_2632 : decode code 2632 = .ok (.if_icmp .eq 54, 3) := by decide +kernel
theorem d_La_law_2635 : decode code 2635 = .ok (.iconst 0, 1) := by decide +kernel
theorem d_La_law_2636 : decode code 2636 = .ok (.ireturn, 1) := by decide +kernel
def B_La_law_2574 (L : Nat) (xs : Nat → Int32) (k18 : Int32 → Sto → Option (Bool × Sto)) (v3 : Int32) (σ : Sto) : Option (Bool × Sto) :=
  (if inb (v3 + (1 : Int32)) L = true then (if inb (v3 + (2 : Int32)) L = true then (if inb (v3 + (3 : Int32)) L = true then (if inb (v3 + (4 : Int32)) L = true then (if inb (v3 + (5 : Int32)) L = true then ((f_FR_copy (xs (Int32.toNatClampNeg (v3 + (1 : Int32)))) (xs (Int32.toNatClampNeg (v3 + (2 : Int32)))) (xs (Int32.toNatClampNeg (v3 + (3 : Int32)))) (xs (Int32.toNatClampNeg (v3 + (4 : Int32)))) (xs (Int32.toNatClampNeg (v3 + (5 : Int32)))) σ).bind fun q79 => (if inb (v3 + (1 : Int32)) L = true then (if inb (v3 + (2 : Int32)) L = true then (if inb (v3 + (3 : Int32)) L = true then (if inb (v3 + (4 : Int32)) L = true then (if inb (v3 + (5 : Int32)) L = true then ((f_Mo_copy (xs (Int32.toNatClampNeg (v3 + (1 : Int32)))) (xs (Int32.toNatClampNeg (v3 + (2 : Int32)))) (xs (Int32.toNatClampNeg (v3 + (3 : Int32)))) (xs (Int32.toNatClampNeg (v3 + (4 : Int32)))) (xs (Int32.toNatClampNeg (v3 + (5 : Int32)))) q79.2).bind fun q80 => (if q79.1 = q80.1 then B_La_law_2686 L xs k18 v3 q80.2
 else some (false, q80.2))) else none) else none) else none) else none) else none)) else none) else none) else none) else none) else none)
set_option maxHeartbeats 4000000 in
set_option maxRecDepth 100000 in
theorem vB_La_law_2574 {X : Xt} {E : En} {L : Nat} {xs : Nat → Int32} (hX : SX X E L xs) (g : GG X E 200 code R_La 4) {k18 : Int32 → Sto → Option (Bool × Sto)} (hk18 : ∀ (v3 : Int32) (σ : Sto), VV X E code 4 eB 18 [(0, .ref (E.2.1 999)), (1, .ref (E.2.1 0)), (2, .ref (E.2.1 48)), (3, .int v3)] [] σ (k18 v3 σ)) (v3 : Int32) (σ : Sto) : VV X E code 4 eB 2574 [(0, .ref (E.2.1 999)), (1, .ref (E.2.1 0)), (2, .ref (E.2.1 48)), (3, .int v3)] [] σ (B_La_law_2574 L xs k18 v3 σ) := by
  unfold B_La_law_2574
  refine v_aload_n 1 g d_La_law_2574 rfl ?_
  refine v_aload_n 0 g d_La_law_2575 rfl ?_
  refine v_iload_n 3 g d_La_law_2576 rfl ?_
  refine v_iconst (v := (1 : Int32)) g d_La_law_2577 (by decide +kernel) ?_
  refine v_iadd g d_La_law_2578 ?_
  refine v_sld hX g d_La_law_2579 (fun _ => ?_)
  refine v_aload_n 0 g d_La_law_2580 rfl ?_
  refine v_iload_n 3 g d_La_law_2581 rfl ?_
  refine v_iconst (v := (2 : Int32)) g d_La_law_2582 (by decide +kernel) ?_
  refine v_iadd g d_La_law_2583 ?_
  refine v_sld hX g d_La_law_2584 (fun _ => ?_)
  refine v_aload_n 0 g d_La_law_2585 rfl ?_
  refine v_iload_n 3 g d_La_law_2586 rfl ?_
  refine v_iconst (v := (3 : Int32)) g d_La_law_2587 (by decide +kernel) ?_
  refine v_iadd g d_La_law_2588 ?_
  refine v_sld hX g d_La_law_2589 (fun _ => ?_)
  refine v_aload_n 0 g d_La_law_2590 rfl ?_
  refine v_iload_n 3 g d_La_law_2591 rfl ?_
  refine v_iconst (v := (4 : Int32)) g d_La_law_2592 (by decide +kernel) ?_
  refine v_iadd g d_La_law_2593 ?_
  refine v_sld hX g d_La_law_2594 (fun _ => ?_)
  refine v_aload_n 0 g d_La_law_2595 rfl ?_
  refine v_iload_n 3 g d_La_law_2596 rfl ?_
  refine v_iconst (v := (5 : Int32)) g d_La_law_2597 (by decide +kernel) ?_
  refine v_iadd g d_La_law_2598 ?_
  refine v_sld hX g d_La_law_2599 (fun _ => ?_)
  refine v_callI (r_V (rest := []) [.int (xs (Int32.toNatClampNeg (v3 + (1 : Int32)))), .int (xs (Int32.toNatClampNeg (v3 + (2 : Int32)))), .int (xs (Int32.toNatClampNeg (v3 + (3 : Int32)))), .int (xs (Int32.toNatClampNeg (v3 + (4 : Int32)))), .int (xs (Int32.toNatClampNeg (v3 + (5 : Int32))))] g (m1 1021 (by decide +kernel) (by decide +kernel)) yv_FR_copy rfl (fun r σ1 h => sp_FR_copy g.2.2.1  h) rfl rfl (by decide) (Nat.le_of_ble_eq_true rfl) d_La_law_2600) (fun q79 => ?_)
  refine v_aload_n 2 g d_La_law_2603 rfl ?_
  refine v_aload_n 0 g d_La_law_2604 rfl ?_
  refine v_iload_n 3 g d_La_law_2605 rfl ?_
  refine v_iconst (v := (1 : Int32)) g d_La_law_2606 (by decide +kernel) ?_
  refine v_iadd g d_La_law_2607 ?_
  refine v_sld hX g d_La_law_2608 (fun _ => ?_)
  refine v_aload_n 0 g d_La_law_2609 rfl ?_
  refine v_iload_n 3 g d_La_law_2610 rfl ?_
  refine v_iconst (v := (2 : Int32)) g d_La_law_2611 (by decide +kernel) ?_
  refine v_iadd g d_La_law_2612 ?_
  refine v_sld hX g d_La_law_2613 (fun _ => ?_)
  refine v_aload_n 0 g d_La_law_2614 rfl ?_
  refine v_iload_n 3 g d_La_law_2615 rfl ?_
  refine v_iconst (v := (3 : Int32)) g d_La_law_2616 (by decide +kernel) ?_
  refine v_iadd g d_La_law_2617 ?_
  refine v_sld hX g d_La_law_2618 (fun _ => ?_)
  refine v_aload_n 0 g d_La_law_2619 rfl ?_
  refine v_iload_n 3 g d_La_law_2620 rfl ?_
  refine v_iconst (v := (4 : Int32)) g d_La_law_2621 (by decide +kernel) ?_
  refine v_iadd g d_La_law_2622 ?_
  refine v_sld hX g d_La_law_2623 (fun _ => ?_)
  refine v_aload_n 0 g d_La_law_2624 rfl ?_
  refine v_iload_n 3 g d_La_law_2625 rfl ?_
  refine v_iconst (v := (5 : Int32)) g d_La_law_2626 (by decide +kernel) ?_
  refine v_iadd g d_La_law_2627 ?_
  refine v_sld hX g d_La_law_2628 (fun _ => ?_)
  refine v_callI (r_V (rest := [.int q79.1]) [.int (xs (Int32.toNatClampNeg (v3 + (1 : Int32)))), .int (xs (Int32.toNatClampNeg (v3 + (2 : Int32)))), .int (xs (Int32.toNatClampNeg (v3 + (3 : Int32)))), .int (xs (Int32.toNatClampNeg (v3 + (4 : Int32)))), .int (xs (Int32.toNatClampNeg (v3 + (5 : Int32))))] g (m1 1551 (by decide +kernel) (by decide +kernel)) yv_Mo_copy rfl (fun r σ1 h => sp_Mo_copy g.2.2.1  h) rfl rfl (by decide) (Nat.le_of_ble_eq_true rfl) d_La_law_2629) (fun q80 => ?_)
  refine v_icmp_eq 2686 g d_La_law_2632 (by decide) (fun _ => ?_) (fun _ => ?_)
  · exact v_sub [0,1,2,3] rfl (vB_La_law_2686 hX g hk18 v3 q80.2)
  · refine v_iconst (v := (0 : Int32)) g d_La_law_2635 (by decide +kernel) ?_
    exact v_ret d_La_law_2636 rfl
theorem d_La_law_2637 : decode code 2637 = .ok (.aload_n 1, 1) := by decide +kernel
theorem d_La_law_2638 : decode code 2638 = .ok (.invokevirtual 194, 3) := by decide +kernel
theorem d_La_law_2641 : decode code 2641 = .ok (.aload_n 2, 1) := by decide +kernel
theorem d_La_law_2642 : decode code 2642 = .ok (.invokevirtual 197, 3) := by decide +kernel
theorem d_La_law_2645 : decode code 2645 = .ok (.if_icmp .eq 41, 3) := by decide +kernel
theorem d_La_law_2648 : decode code 2648 = .ok (.iconst 0, 1) := by decide +kernel
theorem d_La_law_2649 : decode code 2649 = .ok (.ireturn, 1) := by decide +kernel
def B_La_law_2637 (L : Nat) (xs : Nat → Int32) (k18 : Int32 → Sto → Option (Bool × Sto)) (v3 : Int32) (σ : Sto) : Option (Bool × Sto) :=
  ((f_FR_image  σ).bind fun q81 => ((f_Mo_image  q81.2).bind fun q82 => (if q81.1 = q82.1 then B_La_law_2686 L xs k18 v3 q82.2
 else some (false, q82.2))))
set_option maxHeartbeats 4000000 in
set_option maxRecDepth 100000 in
theorem vB_La_law_2637 {X : Xt} {E : En} {L : Nat} {xs : Nat → Int32} (hX : SX X E L xs) (g : GG X E 200 code R_La 4) {k18 : Int32 → Sto → Option (Bool × Sto)} (hk18 : ∀ (v3 : Int32) (σ : Sto), VV X E code 4 eB 18 [(0, .ref (E.2.1 999)), (1, .ref (E.2.1 0)), (2, .ref (E.2.1 48)), (3, .int v3)] [] σ (k18 v3 σ)) (v3 : Int32) (σ : Sto) : VV X E code 4 eB 2637 [(0, .ref (E.2.1 999)), (1, .ref (E.2.1 0)), (2, .ref (E.2.1 48)), (3, .int v3)] [] σ (B_La_law_2637 L xs k18 v3 σ) := by
  unfold B_La_law_2637
  refine v_aload_n 1 g d_La_law_2637 rfl ?_
  refine v_callI (r_V (rest := []) [] g (m1 1026 (by decide +kernel) (by decide +kernel)) yv_FR_image rfl (fun r σ1 h => sp_FR_image g.2.2.1  h) rfl rfl (by decide) (Nat.le_of_ble_eq_true rfl) d_La_law_2638) (fun q81 => ?_)
  refine v_aload_n 2 g d_La_law_2641 rfl ?_
  refine v_callI (r_V (rest := [.int q81.1]) [] g (m1 1555 (by decide +kernel) (by decide +kernel)) yv_Mo_image rfl (fun r σ1 h => sp_Mo_image g.2.2.1  h) rfl rfl (by decide) (Nat.le_of_ble_eq_true rfl) d_La_law_2642) (fun q82 => ?_)
  refine v_icmp_eq 2686 g d_La_law_2645 (by decide) (fun _ => ?_) (fun _ => ?_)
  · exact v_sub [0,1,2,3] rfl (vB_La_law_2686 hX g hk18 v3 q82.2)
  · refine v_iconst (v := (0 : Int32)) g d_La_law_2648 (by decide +kernel) ?_
    exact v_ret d_La_law_2649 rfl
theorem d_La_law_2650 : decode code 2650 = .ok (.aload_n 1, 1) := by decide +kernel
theorem d_La_law_2651 : decode code 2651 = .ok (.invokevirtual 198, 3) := by decide +kernel
theorem d_La_law_2654 : decode code 2654 = .ok (.aload_n 2, 1) := by decide +kernel
theorem d_La_law_2655 : decode code 2655 = .ok (.invokevirtual 201, 3) := by decide +kernel
theorem d_La_law_2658 : decode code 2658 = .ok (.if_icmp .eq 28, 3) := by decide +kernel
theorem d_La_law_2661 : decode code 2661 = .ok (.iconst 0, 1) := by decide +kernel
theorem d_La_law_2662 : decode code 2662 = .ok (.ireturn, 1) := by decide +kernel
def B_La_law_2650 (L : Nat) (xs : Nat → Int32) (k18 : Int32 → Sto → Option (Bool × Sto)) (v3 : Int32) (σ : Sto) : Option (Bool × Sto) :=
  ((f_FR_back  σ).bind fun q83 => ((f_Mo_back  q83.2).bind fun q84 => (if q83.1 = q84.1 then B_La_law_2686 L xs k18 v3 q84.2
 else some (false, q84.2))))
set_option maxHeartbeats 4000000 in
set_option maxRecDepth 100000 in
theorem vB_La_law_2650 {X : Xt} {E : En} {L : Nat} {xs : Nat → Int32} (hX : SX X E L xs) (g : GG X E 200 code R_La 4) {k18 : Int32 → Sto → Option (Bool × Sto)} (hk18 : ∀ (v3 : Int32) (σ : Sto), VV X E code 4 eB 18 [(0, .ref (E.2.1 999)), (1, .ref (E.2.1 0)), (2, .ref (E.2.1 48)), (3, .int v3)] [] σ (k18 v3 σ)) (v3 : Int32) (σ : Sto) : VV X E code 4 eB 2650 [(0, .ref (E.2.1 999)), (1, .ref (E.2.1 0)), (2, .ref (E.2.1 48)), (3, .int v3)] [] σ (B_La_law_2650 L xs k18 v3 σ) := by
  unfold B_La_law_2650
  refine v_aload_n 1 g d_La_law_2650 rfl ?_
  refine v_callI (r_V (rest := []) [] g (m1 1030 (by decide +kernel) (by decide +kernel)) yv_FR_back rfl (fun r σ1 h => sp_FR_back g.2.2.1  h) rfl rfl (by decide) (Nat.le_of_ble_eq_true rfl) d_La_law_2651) (fun q83 => ?_)
  refine v_aload_n 2 g d_La_law_2654 rfl ?_
  refine v_callI (r_V (rest := [.int q83.1]) [] g (m1 1559 (by decide +kernel) (by decide +kernel)) yv_Mo_back rfl (fun r σ1 h => sp_Mo_back g.2.2.1  h) rfl rfl (by decide) (Nat.le_of_ble_eq_true rfl) d_La_law_2655) (fun q84 => ?_)
  refine v_icmp_eq 2686 g d_La_law_2658 (by decide) (fun _ => ?_) (fun _ => ?_)
  · exact v_sub [0,1,2,3] rfl (vB_La_law_2686 hX g hk18 v3 q84.2)
  · refine v_iconst (v := (0 : Int32)) g d_La_law_2661 (by decide +kernel) ?_
    exact v_ret d_La_law_2662 rfl
theorem d_La_law_2663 : decode code 2663 = .ok (.aload_n 1, 1) := by decide +kernel
theorem d_La_law_2664 : decode code 2664 = .ok (.aload_n 0, 1) := by decide +kernel
theorem d_La_law_2665 : decode code 2665 = .ok (.iload_n 3, 1) := by decide +kernel
theorem d_La_law_2666 : decode code 2666 = .ok (.iconst 1, 1) := by decide +kernel
theorem d_La_law_2667 : decode code 2667 = .ok (.iadd, 1) := by decide +kernel
theorem d_La_law_2668 : decode code 2668 = .ok (.iaload, 1) := by decide +kernel
theorem d_La_law_2669 : decode code 2669 = .ok (.invokevirtual 202, 3) := by decide +kernel
theorem d_La_law_2672 : decode code 2672 = .ok (.aload_n 2, 1) := by decide +kernel
theorem d_La_law_2673 : decode code 2673 = .ok (.aload_n 0, 1) := by decide +kernel
theorem d_La_law_2674 : decode code 2674 = .ok (.iload_n 3, 1) := by decide +kernel
theorem d_La_law_2675 : decode code 2675 = .ok (.iconst 1, 1) := by decide +kernel
theorem d_La_law_2676 : decode code 2676 = .ok (.iadd, 1) := by decide +kernel
theorem d_La_law_2677 : decode code 2677 = .ok (.iaload, 1) := by decide +kernel
theorem d_La_law_2678 : decode code 2678 = .ok (.invokevirtual 205, 3) := by decide +kernel
theorem d_La_law_2681 : decode code 2681 = .ok (.if_icmp .eq 5, 3) := by decide +kernel
theorem d_La_law_2684 : decode code 2684 = .ok (.iconst 0, 1) := by decide +kernel
theorem d_La_law_2685 : decode code 2685 = .ok (.ireturn, 1) := by decide +kernel
def B_La_law_2663 (L : Nat) (xs : Nat → Int32) (k18 : Int32 → Sto → Option (Bool × Sto)) (v3 : Int32) (σ : Sto) : Option (Bool × Sto) :=
  (if inb (v3 + (1 : Int32)) L = true then ((f_FR_count (xs (Int32.toNatClampNeg (v3 + (1 : Int32)))) σ).bind fun q85 => (if inb (v3 + (1 : Int32)) L = true then ((f_Mo_count (xs (Int32.toNatClampNeg (v3 + (1 : Int32)))) q85.2).bind fun q86 => (if q85.1 = q86.1 then B_La_law_2686 L xs k18 v3 q86.2
 else some (false, q86.2))) else none)) else none)
set_option maxHeartbeats 4000000 in
set_option maxRecDepth 100000 in
theorem vB_La_law_2663 {X : Xt} {E : En} {L : Nat} {xs : Nat → Int32} (hX : SX X E L xs) (g : GG X E 200 code R_La 4) {k18 : Int32 → Sto → Option (Bool × Sto)} (hk18 : ∀ (v3 : Int32) (σ : Sto), VV X E code 4 eB 18 [(0, .ref (E.2.1 999)), (1, .ref (E.2.1 0)), (2, .ref (E.2.1 48)), (3, .int v3)] [] σ (k18 v3 σ)) (v3 : Int32) (σ : Sto) : VV X E code 4 eB 2663 [(0, .ref (E.2.1 999)), (1, .ref (E.2.1 0)), (2, .ref (E.2.1 48)), (3, .int v3)] [] σ (B_La_law_2663 L xs k18 v3 σ) := by
  unfold B_La_law_2663
  refine v_aload_n 1 g d_La_law_2663 rfl ?_
  refine v_aload_n 0 g d_La_law_2664 rfl ?_
  refine v_iload_n 3 g d_La_law_2665 rfl ?_
  refine v_iconst (v := (1 : Int32)) g d_La_law_2666 (by decide +kernel) ?_
  refine v_iadd g d_La_law_2667 ?_
  refine v_sld hX g d_La_law_2668 (fun _ => ?_)
  refine v_callI (r_V (rest := []) [.int (xs (Int32.toNatClampNeg (v3 + (1 : Int32))))] g (m1 1034 (by decide +kernel) (by decide +kernel)) yv_FR_count rfl (fun r σ1 h => sp_FR_count g.2.2.1  h) rfl rfl (by decide) (Nat.le_of_ble_eq_true rfl) d_La_law_2669) (fun q85 => ?_)
  refine v_aload_n 2 g d_La_law_2672 rfl ?_
  refine v_aload_n 0 g d_La_law_2673 rfl ?_
  refine v_iload_n 3 g d_La_law_2674 rfl ?_
  refine v_iconst (v := (1 : Int32)) g d_La_law_2675 (by decide +kernel) ?_
  refine v_iadd g d_La_law_2676 ?_
  refine v_sld hX g d_La_law_2677 (fun _ => ?_)
  refine v_callI (r_V (rest := [.int q85.1]) [.int (xs (Int32.toNatClampNeg (v3 + (1 : Int32))))] g (m1 1563 (by decide +kernel) (by decide +kernel)) yv_Mo_count rfl (fun r σ1 h => sp_Mo_count g.2.2.1  h) rfl rfl (by decide) (Nat.le_of_ble_eq_true rfl) d_La_law_2678) (fun q86 => ?_)
  refine v_icmp_eq 2686 g d_La_law_2681 (by decide) (fun _ => ?_) (fun _ => ?_)
  · exact v_sub [0,1,2,3] rfl (vB_La_law_2686 hX g hk18 v3 q86.2)
  · refine v_iconst (v := (0 : Int32)) g d_La_law_2684 (by decide +kernel) ?_
    exact v_ret d_La_law_2685 rfl
theorem d_La_law_18 : decode code 18 = .ok (.iload_n 3, 1) := by decide +kernel
theorem d_La_law_19 : decode code 19 = .ok (.aload_n 0, 1) := by decide +kernel
theorem d_La_law_20 : decode code 20 = .ok (.arraylength, 1) := by decide +kernel
theorem d_La_law_21 : decode code 21 = .ok (.bipush 8, 2) := by decide +kernel
theorem d_La_law_23 : decode code 23 = .ok (.isub, 1) := by decide +kernel
theorem d_La_law_24 : decode code 24 = .ok (.if_icmp .gt 2668, 3) := by decide +kernel
theorem d_La_law_27 : decode code 27 = .ok (.aload_n 0, 1) := by decide +kernel
theorem d_La_law_28 : decode code 28 = .ok (.iload_n 3, 1) := by decide +kernel
theorem d_La_law_29 : decode code 29 = .ok (.iaload, 1) := by decide +kernel
theorem d_La_law_30 : decode code 30 = .ok (.bipush 63, 2) := by decide +kernel
theorem d_La_law_32 : decode code 32 = .ok (.iand, 1) := by decide +kernel
theorem d_La_law_33 : decode code 33 = .ok (.tableswitch 2653 0 42 #[187, 220, 253, 286, 319, 362, 425, 499, 562, 625, 698, 772, 836, 910, 993, 1067, 1141, 1215, 1299, 1382, 1445, 1549, 1644, 1667, 1774, 1797, 1880, 1953, 1986, 2049, 2062, 2105, 2169, 2242, 2275, 2358, 2422, 2465, 2508, 2541, 2604, 2617, 2630], 187) := by decide +kernel
theorem d_La_law_2692 : decode code 2692 = .ok (.iconst 1, 1) := by decide +kernel
theorem d_La_law_2693 : decode code 2693 = .ok (.ireturn, 1) := by decide +kernel
def B_La_law_18 (L : Nat) (xs : Nat → Int32) (k18 : Int32 → Sto → Option (Bool × Sto)) (v3 : Int32) (σ : Sto) : Option (Bool × Sto) :=
  (if ((Int32.ofNat L) - (8 : Int32)) < v3 then some (true, σ)
 else (if inb v3 L = true then (if ((xs (Int32.toNatClampNeg v3)) &&& (63 : Int32)) = (0 : Int32) then B_La_law_220 L xs k18 v3 σ
  else (if ((xs (Int32.toNatClampNeg v3)) &&& (63 : Int32)) = (1 : Int32) then B_La_law_253 L xs k18 v3 σ
   else (if ((xs (Int32.toNatClampNeg v3)) &&& (63 : Int32)) = (2 : Int32) then B_La_law_286 L xs k18 v3 σ
    else (if ((xs (Int32.toNatClampNeg v3)) &&& (63 : Int32)) = (3 : Int32) then B_La_law_319 L xs k18 v3 σ
     else (if ((xs (Int32.toNatClampNeg v3)) &&& (63 : Int32)) = (4 : Int32) then B_La_law_352 L xs k18 v3 σ
      else (if ((xs (Int32.toNatClampNeg v3)) &&& (63 : Int32)) = (5 : Int32) then B_La_law_395 L xs k18 v3 σ
       else (if ((xs (Int32.toNatClampNeg v3)) &&& (63 : Int32)) = (6 : Int32) then B_La_law_458 L xs k18 v3 σ
        else (if ((xs (Int32.toNatClampNeg v3)) &&& (63 : Int32)) = (7 : Int32) then B_La_law_532 L xs k18 v3 σ
         else (if ((xs (Int32.toNatClampNeg v3)) &&& (63 : Int32)) = (8 : Int32) then B_La_law_595 L xs k18 v3 σ
          else (if ((xs (Int32.toNatClampNeg v3)) &&& (63 : Int32)) = (9 : Int32) then B_La_law_658 L xs k18 v3 σ
           else (if ((xs (Int32.toNatClampNeg v3)) &&& (63 : Int32)) = (10 : Int32) then B_La_law_731 L xs k18 v3 σ
            else (if ((xs (Int32.toNatClampNeg v3)) &&& (63 : Int32)) = (11 : Int32) then B_La_law_805 L xs k18 v3 σ
             else (if ((xs (Int32.toNatClampNeg v3)) &&& (63 : Int32)) = (12 : Int32) then B_La_law_869 L xs k18 v3 σ
              else (if ((xs (Int32.toNatClampNeg v3)) &&& (63 : Int32)) = (13 : Int32) then B_La_law_943 L xs k18 v3 σ
               else (if ((xs (Int32.toNatClampNeg v3)) &&& (63 : Int32)) = (14 : Int32) then B_La_law_1026 L xs k18 v3 σ
                else (if ((xs (Int32.toNatClampNeg v3)) &&& (63 : Int32)) = (15 : Int32) then B_La_law_1100 L xs k18 v3 σ
                 else (if ((xs (Int32.toNatClampNeg v3)) &&& (63 : Int32)) = (16 : Int32) then B_La_law_1174 L xs k18 v3 σ
                  else (if ((xs (Int32.toNatClampNeg v3)) &&& (63 : Int32)) = (17 : Int32) then B_La_law_1248 L xs k18 v3 σ
                   else (if ((xs (Int32.toNatClampNeg v3)) &&& (63 : Int32)) = (18 : Int32) then B_La_law_1332 L xs k18 v3 σ
                    else (if ((xs (Int32.toNatClampNeg v3)) &&& (63 : Int32)) = (19 : Int32) then B_La_law_1415 L xs k18 v3 σ
                     else (if ((xs (Int32.toNatClampNeg v3)) &&& (63 : Int32)) = (20 : Int32) then B_La_law_1478 L xs k18 v3 σ
                      else (if ((xs (Int32.toNatClampNeg v3)) &&& (63 : Int32)) = (21 : Int32) then B_La_law_1582 L xs k18 v3 σ
                       else (if ((xs (Int32.toNatClampNeg v3)) &&& (63 : Int32)) = (22 : Int32) then B_La_law_1677 L xs k18 v3 σ
                        else (if ((xs (Int32.toNatClampNeg v3)) &&& (63 : Int32)) = (23 : Int32) then B_La_law_1700 L xs k18 v3 σ
                         else (if ((xs (Int32.toNatClampNeg v3)) &&& (63 : Int32)) = (24 : Int32) then B_La_law_1807 L xs k18 v3 σ
                          else (if ((xs (Int32.toNatClampNeg v3)) &&& (63 : Int32)) = (25 : Int32) then B_La_law_1830 L xs k18 v3 σ
                           else (if ((xs (Int32.toNatClampNeg v3)) &&& (63 : Int32)) = (26 : Int32) then B_La_law_1913 L xs k18 v3 σ
                            else (if ((xs (Int32.toNatClampNeg v3)) &&& (63 : Int32)) = (27 : Int32) then B_La_law_1986 L xs k18 v3 σ
                             else (if ((xs (Int32.toNatClampNeg v3)) &&& (63 : Int32)) = (28 : Int32) then B_La_law_2019 L xs k18 v3 σ
                              else (if ((xs (Int32.toNatClampNeg v3)) &&& (63 : Int32)) = (29 : Int32) then B_La_law_2082 L xs k18 v3 σ
                               else (if ((xs (Int32.toNatClampNeg v3)) &&& (63 : Int32)) = (30 : Int32) then B_La_law_2095 L xs k18 v3 σ
                                else (if ((xs (Int32.toNatClampNeg v3)) &&& (63 : Int32)) = (31 : Int32) then B_La_law_2138 L xs k18 v3 σ
                                 else (if ((xs (Int32.toNatClampNeg v3)) &&& (63 : Int32)) = (32 : Int32) then B_La_law_2202 L xs k18 v3 σ
                                  else (if ((xs (Int32.toNatClampNeg v3)) &&& (63 : Int32)) = (33 : Int32) then B_La_law_2275 L xs k18 v3 σ
                                   else (if ((xs (Int32.toNatClampNeg v3)) &&& (63 : Int32)) = (34 : Int32) then B_La_law_2308 L xs k18 v3 σ
                                    else (if ((xs (Int32.toNatClampNeg v3)) &&& (63 : Int32)) = (35 : Int32) then B_La_law_2391 L xs k18 v3 σ
                                     else (if ((xs (Int32.toNatClampNeg v3)) &&& (63 : Int32)) = (36 : Int32) then B_La_law_2455 L xs k18 v3 σ
                                      else (if ((xs (Int32.toNatClampNeg v3)) &&& (63 : Int32)) = (37 : Int32) then B_La_law_2498 L xs k18 v3 σ
                                       else (if ((xs (Int32.toNatClampNeg v3)) &&& (63 : Int32)) = (38 : Int32) then B_La_law_2541 L xs k18 v3 σ
                                        else (if ((xs (Int32.toNatClampNeg v3)) &&& (63 : Int32)) = (39 : Int32) then B_La_law_2574 L xs k18 v3 σ
                                         else (if ((xs (Int32.toNatClampNeg v3)) &&& (63 : Int32)) = (40 : Int32) then B_La_law_2637 L xs k18 v3 σ
                                          else (if ((xs (Int32.toNatClampNeg v3)) &&& (63 : Int32)) = (41 : Int32) then B_La_law_2650 L xs k18 v3 σ
                                           else (if ((xs (Int32.toNatClampNeg v3)) &&& (63 : Int32)) = (42 : Int32) then B_La_law_2663 L xs k18 v3 σ
                                            else B_La_law_2686 L xs k18 v3 σ))))))))))))))))))))))))))))))))))))))))))) else none))
set_option maxHeartbeats 4000000 in
set_option maxRecDepth 100000 in
theorem vB_La_law_18 {X : Xt} {E : En} {L : Nat} {xs : Nat → Int32} (hX : SX X E L xs) (g : GG X E 200 code R_La 4) {k18 : Int32 → Sto → Option (Bool × Sto)} (hk18 : ∀ (v3 : Int32) (σ : Sto), VV X E code 4 eB 18 [(0, .ref (E.2.1 999)), (1, .ref (E.2.1 0)), (2, .ref (E.2.1 48)), (3, .int v3)] [] σ (k18 v3 σ)) (v3 : Int32) (σ : Sto) : VV X E code 4 eB 18 [(0, .ref (E.2.1 999)), (1, .ref (E.2.1 0)), (2, .ref (E.2.1 48)), (3, .int v3)] [] σ (B_La_law_18 L xs k18 v3 σ) := by
  unfold B_La_law_18
  refine v_iload_n 3 g d_La_law_18 rfl ?_
  refine v_aload_n 0 g d_La_law_19 rfl ?_
  refine v_slen hX g d_La_law_20 ?_
  refine v_bipush (v := (8 : Int32)) g d_La_law_21 (by decide +kernel) ?_
  refine v_isub g d_La_law_23 ?_
  refine v_icmp_gt 2692 g d_La_law_24 (by decide) (fun _ => ?_) (fun _ => ?_)
  · refine v_iconst (v := (1 : Int32)) g d_La_law_2692 (by decide +kernel) ?_
    exact v_ret d_La_law_2693 rfl
  · refine v_aload_n 0 g d_La_law_27 rfl ?_
    refine v_iload_n 3 g d_La_law_28 rfl ?_
    refine v_sld hX g d_La_law_29 (fun _ => ?_)
    refine v_bipush (v := (63 : Int32)) g d_La_law_30 (by decide +kernel) ?_
    refine v_iand g d_La_law_32 ?_
    refine v_ite _ (fun h_0 => ?_) (fun h_0 => ?_)
    · refine v_tableIn 220 g d_La_law_33 (by rw [h_0]; decide +kernel) (by rw [h_0]; decide +kernel) (off := 187) (by rw [h_0]; decide +kernel) (by decide) ?_
      exact v_sub [0,1,2,3] rfl (vB_La_law_220 hX g hk18 v3 σ)
    · refine v_ite _ (fun h_1 => ?_) (fun h_1 => ?_)
      · refine v_tableIn 253 g d_La_law_33 (by rw [h_1]; decide +kernel) (by rw [h_1]; decide +kernel) (off := 220) (by rw [h_1]; decide +kernel) (by decide) ?_
        exact v_sub [0,1,2,3] rfl (vB_La_law_253 hX g hk18 v3 σ)
      · refine v_ite _ (fun h_2 => ?_) (fun h_2 => ?_)
        · refine v_tableIn 286 g d_La_law_33 (by rw [h_2]; decide +kernel) (by rw [h_2]; decide +kernel) (off := 253) (by rw [h_2]; decide +kernel) (by decide) ?_
          exact v_sub [0,1,2,3] rfl (vB_La_law_286 hX g hk18 v3 σ)
        · refine v_ite _ (fun h_3 => ?_) (fun h_3 => ?_)
          · refine v_tableIn 319 g d_La_law_33 (by rw [h_3]; decide +kernel) (by rw [h_3]; decide +kernel) (off := 286) (by rw [h_3]; decide +kernel) (by decide) ?_
            exact v_sub [0,1,2,3] rfl (vB_La_law_319 hX g hk18 v3 σ)
          · refine v_ite _ (fun h_4 => ?_) (fun h_4 => ?_)
            · refine v_tableIn 352 g d_La_law_33 (by rw [h_4]; decide +kernel) (by rw [h_4]; decide +kernel) (off := 319) (by rw [h_4]; decide +kernel) (by decide) ?_
              exact v_sub [0,1,2,3] rfl (vB_La_law_352 hX g hk18 v3 σ)
            · refine v_ite _ (fun h_5 => ?_) (fun h_5 => ?_)
              · refine v_tableIn 395 g d_La_law_33 (by rw [h_5]; decide +kernel) (by rw [h_5]; decide +kernel) (off := 362) (by rw [h_5]; decide +kernel) (by decide) ?_
                exact v_sub [0,1,2,3] rfl (vB_La_law_395 hX g hk18 v3 σ)
              · refine v_ite _ (fun h_6 => ?_) (fun h_6 => ?_)
                · refine v_tableIn 458 g d_La_law_33 (by rw [h_6]; decide +kernel) (by rw [h_6]; decide +kernel) (off := 425) (by rw [h_6]; decide +kernel) (by decide) ?_
                  exact v_sub [0,1,2,3] rfl (vB_La_law_458 hX g hk18 v3 σ)
                · refine v_ite _ (fun h_7 => ?_) (fun h_7 => ?_)
                  · refine v_tableIn 532 g d_La_law_33 (by rw [h_7]; decide +kernel) (by rw [h_7]; decide +kernel) (off := 499) (by rw [h_7]; decide +kernel) (by decide) ?_
                    exact v_sub [0,1,2,3] rfl (vB_La_law_532 hX g hk18 v3 σ)
                  · refine v_ite _ (fun h_8 => ?_) (fun h_8 => ?_)
                    · refine v_tableIn 595 g d_La_law_33 (by rw [h_8]; decide +kernel) (by rw [h_8]; decide +kernel) (off := 562) (by rw [h_8]; decide +kernel) (by decide) ?_
                      exact v_sub [0,1,2,3] rfl (vB_La_law_595 hX g hk18 v3 σ)
                    · refine v_ite _ (fun h_9 => ?_) (fun h_9 => ?_)
                      · refine v_tableIn 658 g d_La_law_33 (by rw [h_9]; decide +kernel) (by rw [h_9]; decide +kernel) (off := 625) (by rw [h_9]; decide +kernel) (by decide) ?_
                        exact v_sub [0,1,2,3] rfl (vB_La_law_658 hX g hk18 v3 σ)
                      · refine v_ite _ (fun h_10 => ?_) (fun h_10 => ?_)
                        · refine v_tableIn 731 g d_La_law_33 (by rw [h_10]; decide +kernel) (by rw [h_10]; decide +kernel) (off := 698) (by rw [h_10]; decide +kernel) (by decide) ?_
                          exact v_sub [0,1,2,3] rfl (vB_La_law_731 hX g hk18 v3 σ)
                        · refine v_ite _ (fun h_11 => ?_) (fun h_11 => ?_)
                          · refine v_tableIn 805 g d_La_law_33 (by rw [h_11]; decide +kernel) (by rw [h_11]; decide +kernel) (off := 772) (by rw [h_11]; decide +kernel) (by decide) ?_
                            exact v_sub [0,1,2,3] rfl (vB_La_law_805 hX g hk18 v3 σ)
                          · refine v_ite _ (fun h_12 => ?_) (fun h_12 => ?_)
                            · refine v_tableIn 869 g d_La_law_33 (by rw [h_12]; decide +kernel) (by rw [h_12]; decide +kernel) (off := 836) (by rw [h_12]; decide +kernel) (by decide) ?_
                              exact v_sub [0,1,2,3] rfl (vB_La_law_869 hX g hk18 v3 σ)
                            · refine v_ite _ (fun h_13 => ?_) (fun h_13 => ?_)
                              · refine v_tableIn 943 g d_La_law_33 (by rw [h_13]; decide +kernel) (by rw [h_13]; decide +kernel) (off := 910) (by rw [h_13]; decide +kernel) (by decide) ?_
                                exact v_sub [0,1,2,3] rfl (vB_La_law_943 hX g hk18 v3 σ)
                              · refine v_ite _ (fun h_14 => ?_) (fun h_14 => ?_)
                                · refine v_tableIn 1026 g d_La_law_33 (by rw [h_14]; decide +kernel) (by rw [h_14]; decide +kernel) (off := 993) (by rw [h_14]; decide +kernel) (by decide) ?_
                                  exact v_sub [0,1,2,3] rfl (vB_La_law_1026 hX g hk18 v3 σ)
                                · refine v_ite _ (fun h_15 => ?_) (fun h_15 => ?_)
                                  · refine v_tableIn 1100 g d_La_law_33 (by rw [h_15]; decide +kernel) (by rw [h_15]; decide +kernel) (off := 1067) (by rw [h_15]; decide +kernel) (by decide) ?_
                                    exact v_sub [0,1,2,3] rfl (vB_La_law_1100 hX g hk18 v3 σ)
                                  · refine v_ite _ (fun h_16 => ?_) (fun h_16 => ?_)
                                    · refine v_tableIn 1174 g d_La_law_33 (by rw [h_16]; decide +kernel) (by rw [h_16]; decide +kernel) (off := 1141) (by rw [h_16]; decide +kernel) (by decide) ?_
                                      exact v_sub [0,1,2,3] rfl (vB_La_law_1174 hX g hk18 v3 σ)
                                    · refine v_ite _ (fun h_17 => ?_) (fun h_17 => ?_)
                                      · refine v_tableIn 1248 g d_La_law_33 (by rw [h_17]; decide +kernel) (by rw [h_17]; decide +kernel) (off := 1215) (by rw [h_17]; decide +kernel) (by decide) ?_
                                        exact v_sub [0,1,2,3] rfl (vB_La_law_1248 hX g hk18 v3 σ)
                                      · refine v_ite _ (fun h_18 => ?_) (fun h_18 => ?_)
                                        · refine v_tableIn 1332 g d_La_law_33 (by rw [h_18]; decide +kernel) (by rw [h_18]; decide +kernel) (off := 1299) (by rw [h_18]; decide +kernel) (by decide) ?_
                                          exact v_sub [0,1,2,3] rfl (vB_La_law_1332 hX g hk18 v3 σ)
                                        · refine v_ite _ (fun h_19 => ?_) (fun h_19 => ?_)
                                          · refine v_tableIn 1415 g d_La_law_33 (by rw [h_19]; decide +kernel) (by rw [h_19]; decide +kernel) (off := 1382) (by rw [h_19]; decide +kernel) (by decide) ?_
                                            exact v_sub [0,1,2,3] rfl (vB_La_law_1415 hX g hk18 v3 σ)
                                          · refine v_ite _ (fun h_20 => ?_) (fun h_20 => ?_)
                                            · refine v_tableIn 1478 g d_La_law_33 (by rw [h_20]; decide +kernel) (by rw [h_20]; decide +kernel) (off := 1445) (by rw [h_20]; decide +kernel) (by decide) ?_
                                              exact v_sub [0,1,2,3] rfl (vB_La_law_1478 hX g hk18 v3 σ)
                                            · refine v_ite _ (fun h_21 => ?_) (fun h_21 => ?_)
                                              · refine v_tableIn 1582 g d_La_law_33 (by rw [h_21]; decide +kernel) (by rw [h_21]; decide +kernel) (off := 1549) (by rw [h_21]; decide +kernel) (by decide) ?_
                                                exact v_sub [0,1,2,3] rfl (vB_La_law_1582 hX g hk18 v3 σ)
                                              · refine v_ite _ (fun h_22 => ?_) (fun h_22 => ?_)
                                                · refine v_tableIn 1677 g d_La_law_33 (by rw [h_22]; decide +kernel) (by rw [h_22]; decide +kernel) (off := 1644) (by rw [h_22]; decide +kernel) (by decide) ?_
                                                  exact v_sub [0,1,2,3] rfl (vB_La_law_1677 hX g hk18 v3 σ)
                                                · refine v_ite _ (fun h_23 => ?_) (fun h_23 => ?_)
                                                  · refine v_tableIn 1700 g d_La_law_33 (by rw [h_23]; decide +kernel) (by rw [h_23]; decide +kernel) (off := 1667) (by rw [h_23]; decide +kernel) (by decide) ?_
                                                    exact v_sub [0,1,2,3] rfl (vB_La_law_1700 hX g hk18 v3 σ)
                                                  · refine v_ite _ (fun h_24 => ?_) (fun h_24 => ?_)
                                                    · refine v_tableIn 1807 g d_La_law_33 (by rw [h_24]; decide +kernel) (by rw [h_24]; decide +kernel) (off := 1774) (by rw [h_24]; decide +kernel) (by decide) ?_
                                                      exact v_sub [0,1,2,3] rfl (vB_La_law_1807 hX g hk18 v3 σ)
                                                    · refine v_ite _ (fun h_25 => ?_) (fun h_25 => ?_)
                                                      · refine v_tableIn 1830 g d_La_law_33 (by rw [h_25]; decide +kernel) (by rw [h_25]; decide +kernel) (off := 1797) (by rw [h_25]; decide +kernel) (by decide) ?_
                                                        exact v_sub [0,1,2,3] rfl (vB_La_law_1830 hX g hk18 v3 σ)
                                                      · refine v_ite _ (fun h_26 => ?_) (fun h_26 => ?_)
                                                        · refine v_tableIn 1913 g d_La_law_33 (by rw [h_26]; decide +kernel) (by rw [h_26]; decide +kernel) (off := 1880) (by rw [h_26]; decide +kernel) (by decide) ?_
                                                          exact v_sub [0,1,2,3] rfl (vB_La_law_1913 hX g hk18 v3 σ)
                                                        · refine v_ite _ (fun h_27 => ?_) (fun h_27 => ?_)
                                                          · refine v_tableIn 1986 g d_La_law_33 (by rw [h_27]; decide +kernel) (by rw [h_27]; decide +kernel) (off := 1953) (by rw [h_27]; decide +kernel) (by decide) ?_
                                                            exact v_sub [0,1,2,3] rfl (vB_La_law_1986 hX g hk18 v3 σ)
                                                          · refine v_ite _ (fun h_28 => ?_) (fun h_28 => ?_)
                                                            · refine v_tableIn 2019 g d_La_law_33 (by rw [h_28]; decide +kernel) (by rw [h_28]; decide +kernel) (off := 1986) (by rw [h_28]; decide +kernel) (by decide) ?_
                                                              exact v_sub [0,1,2,3] rfl (vB_La_law_2019 hX g hk18 v3 σ)
                                                            · refine v_ite _ (fun h_29 => ?_) (fun h_29 => ?_)
                                                              · refine v_tableIn 2082 g d_La_law_33 (by rw [h_29]; decide +kernel) (by rw [h_29]; decide +kernel) (off := 2049) (by rw [h_29]; decide +kernel) (by decide) ?_
                                                                exact v_sub [0,1,2,3] rfl (vB_La_law_2082 hX g hk18 v3 σ)
                                                              · refine v_ite _ (fun h_30 => ?_) (fun h_30 => ?_)
                                                                · refine v_tableIn 2095 g d_La_law_33 (by rw [h_30]; decide +kernel) (by rw [h_30]; decide +kernel) (off := 2062) (by rw [h_30]; decide +kernel) (by decide) ?_
                                                                  exact v_sub [0,1,2,3] rfl (vB_La_law_2095 hX g hk18 v3 σ)
                                                                · refine v_ite _ (fun h_31 => ?_) (fun h_31 => ?_)
                                                                  · refine v_tableIn 2138 g d_La_law_33 (by rw [h_31]; decide +kernel) (by rw [h_31]; decide +kernel) (off := 2105) (by rw [h_31]; decide +kernel) (by decide) ?_
                                                                    exact v_sub [0,1,2,3] rfl (vB_La_law_2138 hX g hk18 v3 σ)
                                                                  · refine v_ite _ (fun h_32 => ?_) (fun h_32 => ?_)
                                                                    · refine v_tableIn 2202 g d_La_law_33 (by rw [h_32]; decide +kernel) (by rw [h_32]; decide +kernel) (off := 2169) (by rw [h_32]; decide +kernel) (by decide) ?_
                                                                      exact v_sub [0,1,2,3] rfl (vB_La_law_2202 hX g hk18 v3 σ)
                                                                    · refine v_ite _ (fun h_33 => ?_) (fun h_33 => ?_)
                                                                      · refine v_tableIn 2275 g d_La_law_33 (by rw [h_33]; decide +kernel) (by rw [h_33]; decide +kernel) (off := 2242) (by rw [h_33]; decide +kernel) (by decide) ?_
                                                                        exact v_sub [0,1,2,3] rfl (vB_La_law_2275 hX g hk18 v3 σ)
                                                                      · refine v_ite _ (fun h_34 => ?_) (fun h_34 => ?_)
                                                                        · refine v_tableIn 2308 g d_La_law_33 (by rw [h_34]; decide +kernel) (by rw [h_34]; decide +kernel) (off := 2275) (by rw [h_34]; decide +kernel) (by decide) ?_
                                                                          exact v_sub [0,1,2,3] rfl (vB_La_law_2308 hX g hk18 v3 σ)
                                                                        · refine v_ite _ (fun h_35 => ?_) (fun h_35 => ?_)
                                                                          · refine v_tableIn 2391 g d_La_law_33 (by rw [h_35]; decide +kernel) (by rw [h_35]; decide +kernel) (off := 2358) (by rw [h_35]; decide +kernel) (by decide) ?_
                                                                            exact v_sub [0,1,2,3] rfl (vB_La_law_2391 hX g hk18 v3 σ)
                                                                          · refine v_ite _ (fun h_36 => ?_) (fun h_36 => ?_)
                                                                            · refine v_tableIn 2455 g d_La_law_33 (by rw [h_36]; decide +kernel) (by rw [h_36]; decide +kernel) (off := 2422) (by rw [h_36]; decide +kernel) (by decide) ?_
                                                                              exact v_sub [0,1,2,3] rfl (vB_La_law_2455 hX g hk18 v3 σ)
                                                                            · refine v_ite _ (fun h_37 => ?_) (fun h_37 => ?_)
                                                                              · refine v_tableIn 2498 g d_La_law_33 (by rw [h_37]; decide +kernel) (by rw [h_37]; decide +kernel) (off := 2465) (by rw [h_37]; decide +kernel) (by decide) ?_
                                                                                exact v_sub [0,1,2,3] rfl (vB_La_law_2498 hX g hk18 v3 σ)
                                                                              · refine v_ite _ (fun h_38 => ?_) (fun h_38 => ?_)
                                                                                · refine v_tableIn 2541 g d_La_law_33 (by rw [h_38]; decide +kernel) (by rw [h_38]; decide +kernel) (off := 2508) (by rw [h_38]; decide +kernel) (by decide) ?_
                                                                                  exact v_sub [0,1,2,3] rfl (vB_La_law_2541 hX g hk18 v3 σ)
                                                                                · refine v_ite _ (fun h_39 => ?_) (fun h_39 => ?_)
                                                                                  · refine v_tableIn 2574 g d_La_law_33 (by rw [h_39]; decide +kernel) (by rw [h_39]; decide +kernel) (off := 2541) (by rw [h_39]; decide +kernel) (by decide) ?_
                                                                                    exact v_sub [0,1,2,3] rfl (vB_La_law_2574 hX g hk18 v3 σ)
                                                                                  · refine v_ite _ (fun h_40 => ?_) (fun h_40 => ?_)
                                                                                    · refine v_tableIn 2637 g d_La_law_33 (by rw [h_40]; decide +kernel) (by rw [h_40]; decide +kernel) (off := 2604) (by rw [h_40]; decide +kernel) (by decide) ?_
                                                                                      exact v_sub [0,1,2,3] rfl (vB_La_law_2637 hX g hk18 v3 σ)
                                                                                    · refine v_ite _ (fun h_41 => ?_) (fun h_41 => ?_)
                                                                                      · refine v_tableIn 2650 g d_La_law_33 (by rw [h_41]; decide +kernel) (by rw [h_41]; decide +kernel) (off := 2617) (by rw [h_41]; decide +kernel) (by decide) ?_
                                                                                        exact v_sub [0,1,2,3] rfl (vB_La_law_2650 hX g hk18 v3 σ)
                                                                                      · refine v_ite _ (fun h_42 => ?_) (fun h_42 => ?_)
                                                                                        · refine v_tableIn 2663 g d_La_law_33 (by rw [h_42]; decide +kernel) (by rw [h_42]; decide +kernel) (off := 2630) (by rw [h_42]; decide +kernel) (by decide) ?_
                                                                                          exact v_sub [0,1,2,3] rfl (vB_La_law_2663 hX g hk18 v3 σ)
                                                                                        · refine v_tableOut 2686 g d_La_law_33 (by have n0 := sw_ne h_0 (show ((0 : Int32)).toInt = 0 by decide +kernel); have n1 := sw_ne h_1 (show ((1 : Int32)).toInt = 1 by decide +kernel); have n2 := sw_ne h_2 (show ((2 : Int32)).toInt = 2 by decide +kernel); have n3 := sw_ne h_3 (show ((3 : Int32)).toInt = 3 by decide +kernel); have n4 := sw_ne h_4 (show ((4 : Int32)).toInt = 4 by decide +kernel); have n5 := sw_ne h_5 (show ((5 : Int32)).toInt = 5 by decide +kernel); have n6 := sw_ne h_6 (show ((6 : Int32)).toInt = 6 by decide +kernel); have n7 := sw_ne h_7 (show ((7 : Int32)).toInt = 7 by decide +kernel); have n8 := sw_ne h_8 (show ((8 : Int32)).toInt = 8 by decide +kernel); have n9 := sw_ne h_9 (show ((9 : Int32)).toInt = 9 by decide +kernel); have n10 := sw_ne h_10 (show ((10 : Int32)).toInt = 10 by decide +kernel); have n11 := sw_ne h_11 (show ((11 : Int32)).toInt = 11 by decide +kernel); have n12 := sw_ne h_12 (show ((12 : Int32)).toInt = 12 by decide +kernel); have n13 := sw_ne h_13 (show ((13 : Int32)).toInt = 13 by decide +kernel); have n14 := sw_ne h_14 (show ((14 : Int32)).toInt = 14 by decide +kernel); have n15 := sw_ne h_15 (show ((15 : Int32)).toInt = 15 by decide +kernel); have n16 := sw_ne h_16 (show ((16 : Int32)).toInt = 16 by decide +kernel); have n17 := sw_ne h_17 (show ((17 : Int32)).toInt = 17 by decide +kernel); have n18 := sw_ne h_18 (show ((18 : Int32)).toInt = 18 by decide +kernel); have n19 := sw_ne h_19 (show ((19 : Int32)).toInt = 19 by decide +kernel); have n20 := sw_ne h_20 (show ((20 : Int32)).toInt = 20 by decide +kernel); have n21 := sw_ne h_21 (show ((21 : Int32)).toInt = 21 by decide +kernel); have n22 := sw_ne h_22 (show ((22 : Int32)).toInt = 22 by decide +kernel); have n23 := sw_ne h_23 (show ((23 : Int32)).toInt = 23 by decide +kernel); have n24 := sw_ne h_24 (show ((24 : Int32)).toInt = 24 by decide +kernel); have n25 := sw_ne h_25 (show ((25 : Int32)).toInt = 25 by decide +kernel); have n26 := sw_ne h_26 (show ((26 : Int32)).toInt = 26 by decide +kernel); have n27 := sw_ne h_27 (show ((27 : Int32)).toInt = 27 by decide +kernel); have n28 := sw_ne h_28 (show ((28 : Int32)).toInt = 28 by decide +kernel); have n29 := sw_ne h_29 (show ((29 : Int32)).toInt = 29 by decide +kernel); have n30 := sw_ne h_30 (show ((30 : Int32)).toInt = 30 by decide +kernel); have n31 := sw_ne h_31 (show ((31 : Int32)).toInt = 31 by decide +kernel); have n32 := sw_ne h_32 (show ((32 : Int32)).toInt = 32 by decide +kernel); have n33 := sw_ne h_33 (show ((33 : Int32)).toInt = 33 by decide +kernel); have n34 := sw_ne h_34 (show ((34 : Int32)).toInt = 34 by decide +kernel); have n35 := sw_ne h_35 (show ((35 : Int32)).toInt = 35 by decide +kernel); have n36 := sw_ne h_36 (show ((36 : Int32)).toInt = 36 by decide +kernel); have n37 := sw_ne h_37 (show ((37 : Int32)).toInt = 37 by decide +kernel); have n38 := sw_ne h_38 (show ((38 : Int32)).toInt = 38 by decide +kernel); have n39 := sw_ne h_39 (show ((39 : Int32)).toInt = 39 by decide +kernel); have n40 := sw_ne h_40 (show ((40 : Int32)).toInt = 40 by decide +kernel); have n41 := sw_ne h_41 (show ((41 : Int32)).toInt = 41 by decide +kernel); have n42 := sw_ne h_42 (show ((42 : Int32)).toInt = 42 by decide +kernel); omega) (by decide) ?_
                                                                                          exact v_sub [0,1,2,3] rfl (vB_La_law_2686 hX g hk18 v3 σ)
def L_La_law_18 (L : Nat) (xs : Nat → Int32) : Nat → Int32 → Sto → Option (Bool × Sto)
  | 0, _, _ => none
  | fu + 1, v3, σ => B_La_law_18 L xs (L_La_law_18 L xs fu) v3 σ
theorem vL_La_law_18 {X : Xt} {E : En} {L : Nat} {xs : Nat → Int32} (hX : SX X E L xs) (g : GG X E 200 code R_La 4) (fu : Nat) : ∀ (v3 : Int32) (σ : Sto), VV X E code 4 eB 18 [(0, .ref (E.2.1 999)), (1, .ref (E.2.1 0)), (2, .ref (E.2.1 48)), (3, .int v3)] [] σ (L_La_law_18 L xs fu v3 σ) := by
  induction fu with
  | zero => intros; exact v_none
  | succ fu ih =>
    intro v3 σ
    exact vB_La_law_18 hX g ih v3 σ
