/-! TABLES: what the words of the tables say, by their places (written by a program) -/
theorem gmt1 {w : Cond} (i : Nat) (h : tables_1_1[i]? = some w) (hg : goodWord w = true) : w ∈ gTb := by
  have : w ∈ tables_1_1 := List.mem_of_getElem? h
  exact List.mem_filter.mpr ⟨by simp only [lw_tbl, tables_1, List.mem_append]; simp [this], hg⟩
theorem gmt2 {w : Cond} (i : Nat) (h : tables_1_2[i]? = some w) (hg : goodWord w = true) : w ∈ gTb := by
  have : w ∈ tables_1_2 := List.mem_of_getElem? h
  exact List.mem_filter.mpr ⟨by simp only [lw_tbl, tables_1, List.mem_append]; simp [this], hg⟩
theorem gmt3 {w : Cond} (i : Nat) (h : tables_1_3[i]? = some w) (hg : goodWord w = true) : w ∈ gTb := by
  have : w ∈ tables_1_3 := List.mem_of_getElem? h
  exact List.mem_filter.mpr ⟨by simp only [lw_tbl, tables_1, List.mem_append]; simp [this], hg⟩
theorem gmt4 {w : Cond} (i : Nat) (h : tables_1_4[i]? = some w) (hg : goodWord w = true) : w ∈ gTb := by
  have : w ∈ tables_1_4 := List.mem_of_getElem? h
  exact List.mem_filter.mpr ⟨by simp only [lw_tbl, tables_1, List.mem_append]; simp [this], hg⟩
theorem gmt5 {w : Cond} (i : Nat) (h : tables_1_5[i]? = some w) (hg : goodWord w = true) : w ∈ gTb := by
  have : w ∈ tables_1_5 := List.mem_of_getElem? h
  exact List.mem_filter.mpr ⟨by simp only [lw_tbl, tables_1, List.mem_append]; simp [this], hg⟩
theorem gmt6 {w : Cond} (i : Nat) (h : tables_1_6[i]? = some w) (hg : goodWord w = true) : w ∈ gTb := by
  have : w ∈ tables_1_6 := List.mem_of_getElem? h
  exact List.mem_filter.mpr ⟨by simp only [lw_tbl, tables_1, List.mem_append]; simp [this], hg⟩
theorem gmt7 {w : Cond} (i : Nat) (h : tables_1_7[i]? = some w) (hg : goodWord w = true) : w ∈ gTb := by
  have : w ∈ tables_1_7 := List.mem_of_getElem? h
  exact List.mem_filter.mpr ⟨by simp only [lw_tbl, tables_1, List.mem_append]; simp [this], hg⟩
theorem gmt8 {w : Cond} (i : Nat) (h : tables_1_8[i]? = some w) (hg : goodWord w = true) : w ∈ gTb := by
  have : w ∈ tables_1_8 := List.mem_of_getElem? h
  exact List.mem_filter.mpr ⟨by simp only [lw_tbl, tables_1, List.mem_append]; simp [this], hg⟩
set_option maxRecDepth 10000 in
theorem gmp1 {y : MethodName} (i : Nat) {n : Nat} (h : lw_privs_1[i]? = some (y, n)) : Cond.selects y.cls y y ∈ gTb := by
  have : (y, n) ∈ lw_privs_1 := List.mem_of_getElem? h
  exact List.mem_filter.mpr ⟨by simp only [lw_tbl, List.mem_append]; exact Or.inl (List.mem_map.mpr ⟨(y, n), by simp only [lw_privs, List.mem_append]; simp [this], rfl⟩), rfl⟩
set_option maxRecDepth 10000 in
theorem gmp2 {y : MethodName} (i : Nat) {n : Nat} (h : lw_privs_2[i]? = some (y, n)) : Cond.selects y.cls y y ∈ gTb := by
  have : (y, n) ∈ lw_privs_2 := List.mem_of_getElem? h
  exact List.mem_filter.mpr ⟨by simp only [lw_tbl, List.mem_append]; exact Or.inl (List.mem_map.mpr ⟨(y, n), by simp only [lw_privs, List.mem_append]; simp [this], rfl⟩), rfl⟩
set_option maxRecDepth 10000 in
theorem gmp3 {y : MethodName} (i : Nat) {n : Nat} (h : lw_privs_3[i]? = some (y, n)) : Cond.selects y.cls y y ∈ gTb := by
  have : (y, n) ∈ lw_privs_3 := List.mem_of_getElem? h
  exact List.mem_filter.mpr ⟨by simp only [lw_tbl, List.mem_append]; exact Or.inl (List.mem_map.mpr ⟨(y, n), by simp only [lw_privs, List.mem_append]; simp [this], rfl⟩), rfl⟩
set_option maxRecDepth 10000 in
theorem gmp4 {y : MethodName} (i : Nat) {n : Nat} (h : lw_privs_4[i]? = some (y, n)) : Cond.selects y.cls y y ∈ gTb := by
  have : (y, n) ∈ lw_privs_4 := List.mem_of_getElem? h
  exact List.mem_filter.mpr ⟨by simp only [lw_tbl, List.mem_append]; exact Or.inl (List.mem_map.mpr ⟨(y, n), by simp only [lw_privs, List.mem_append]; simp [this], rfl⟩), rfl⟩
set_option maxRecDepth 10000 in
theorem gmp5 {y : MethodName} (i : Nat) {n : Nat} (h : lw_privs_5[i]? = some (y, n)) : Cond.selects y.cls y y ∈ gTb := by
  have : (y, n) ∈ lw_privs_5 := List.mem_of_getElem? h
  exact List.mem_filter.mpr ⟨by simp only [lw_tbl, List.mem_append]; exact Or.inl (List.mem_map.mpr ⟨(y, n), by simp only [lw_privs, List.mem_append]; simp [this], rfl⟩), rfl⟩
set_option maxRecDepth 10000 in
theorem gmp6 {y : MethodName} (i : Nat) {n : Nat} (h : lw_privs_6[i]? = some (y, n)) : Cond.selects y.cls y y ∈ gTb := by
  have : (y, n) ∈ lw_privs_6 := List.mem_of_getElem? h
  exact List.mem_filter.mpr ⟨by simp only [lw_tbl, List.mem_append]; exact Or.inl (List.mem_map.mpr ⟨(y, n), by simp only [lw_privs, List.mem_append]; simp [this], rfl⟩), rfl⟩
set_option maxRecDepth 10000 in
theorem gmp7 {y : MethodName} (i : Nat) {n : Nat} (h : lw_privs_7[i]? = some (y, n)) : Cond.selects y.cls y y ∈ gTb := by
  have : (y, n) ∈ lw_privs_7 := List.mem_of_getElem? h
  exact List.mem_filter.mpr ⟨by simp only [lw_tbl, List.mem_append]; exact Or.inl (List.mem_map.mpr ⟨(y, n), by simp only [lw_privs, List.mem_append]; simp [this], rfl⟩), rfl⟩
set_option maxRecDepth 10000 in
theorem gmp8 {y : MethodName} (i : Nat) {n : Nat} (h : lw_privs_8[i]? = some (y, n)) : Cond.selects y.cls y y ∈ gTb := by
  have : (y, n) ∈ lw_privs_8 := List.mem_of_getElem? h
  exact List.mem_filter.mpr ⟨by simp only [lw_tbl, List.mem_append]; exact Or.inl (List.mem_map.mpr ⟨(y, n), by simp only [lw_privs, List.mem_append]; simp [this], rfl⟩), rfl⟩
set_option maxRecDepth 10000 in
theorem gl_0_0 : u_lay RX0 TX0 0 ∈ gTb := gmt1 140 rfl rfl
set_option maxRecDepth 10000 in
theorem gl_0_1 : u_lay RX0 TX0 1 ∈ gTb := gmt1 142 rfl rfl
set_option maxRecDepth 10000 in
theorem gl_0_2 : u_lay RX0 TX0 2 ∈ gTb := gmt1 144 rfl rfl
set_option maxRecDepth 10000 in
theorem gl_0_3 : u_lay RX0 TX0 3 ∈ gTb := gmt1 146 rfl rfl
set_option maxRecDepth 10000 in
theorem gl_0_4 : u_lay RX0 TX0 4 ∈ gTb := gmt1 148 rfl rfl
set_option maxRecDepth 10000 in
theorem gl_0_5 : u_lay RX0 TX0 5 ∈ gTb := gmt1 150 rfl rfl
set_option maxRecDepth 10000 in
theorem gl_0_6 : u_lay RX0 TX0 6 ∈ gTb := gmt1 152 rfl rfl
set_option maxRecDepth 10000 in
theorem gl_0_7 : u_lay RX0 TX0 7 ∈ gTb := gmt1 154 rfl rfl
set_option maxRecDepth 10000 in
theorem gu_0 : ∀ w ∈ u_ws RX0 TX0 8, w ∈ gTb := by
  intro w hw
  obtain ⟨k, hk, rfl⟩ := List.mem_map.mp hw
  have := List.mem_range.mp hk
  match k, this with
  | 0, _ => exact gl_0_0
  | 1, _ => exact gl_0_1
  | 2, _ => exact gl_0_2
  | 3, _ => exact gl_0_3
  | 4, _ => exact gl_0_4
  | 5, _ => exact gl_0_5
  | 6, _ => exact gl_0_6
  | 7, _ => exact gl_0_7
  | k + 8, h => exact absurd h (by omega)
set_option maxRecDepth 10000 in
theorem gcf_0 : gCF 0 := ⟨by decide, RX0, TX0, 8, tyX0, rfl, gu_0, nmX0, tyX0_ok⟩
set_option maxRecDepth 10000 in
theorem gcd_0 : gCD 0 := ⟨RX0, TX0, 8, tyX0, rfl, gmt1 115 rfl rfl, gmt1 7 rfl rfl, tyX0_ok, by decide +kernel⟩
set_option maxRecDepth 10000 in
theorem gl_1_0 : u_lay RX1 TX1 0 ∈ gTb := gmt2 141 rfl rfl
set_option maxRecDepth 10000 in
theorem gl_1_1 : u_lay RX1 TX1 1 ∈ gTb := gmt2 143 rfl rfl
set_option maxRecDepth 10000 in
theorem gl_1_2 : u_lay RX1 TX1 2 ∈ gTb := gmt2 145 rfl rfl
set_option maxRecDepth 10000 in
theorem gl_1_3 : u_lay RX1 TX1 3 ∈ gTb := gmt2 147 rfl rfl
set_option maxRecDepth 10000 in
theorem gl_1_4 : u_lay RX1 TX1 4 ∈ gTb := gmt2 149 rfl rfl
set_option maxRecDepth 10000 in
theorem gl_1_5 : u_lay RX1 TX1 5 ∈ gTb := gmt2 151 rfl rfl
set_option maxRecDepth 10000 in
theorem gl_1_6 : u_lay RX1 TX1 6 ∈ gTb := gmt2 153 rfl rfl
set_option maxRecDepth 10000 in
theorem gu_1 : ∀ w ∈ u_ws RX1 TX1 7, w ∈ gTb := by
  intro w hw
  obtain ⟨k, hk, rfl⟩ := List.mem_map.mp hw
  have := List.mem_range.mp hk
  match k, this with
  | 0, _ => exact gl_1_0
  | 1, _ => exact gl_1_1
  | 2, _ => exact gl_1_2
  | 3, _ => exact gl_1_3
  | 4, _ => exact gl_1_4
  | 5, _ => exact gl_1_5
  | 6, _ => exact gl_1_6
  | k + 7, h => exact absurd h (by omega)
set_option maxRecDepth 10000 in
theorem gcf_1 : gCF 1 := ⟨by decide, RX1, TX1, 7, tyX1, rfl, gu_1, nmX1, tyX1_ok⟩
set_option maxRecDepth 10000 in
theorem gcd_1 : gCD 1 := ⟨RX1, TX1, 7, tyX1, rfl, gmt2 55 rfl rfl, gmt1 12 rfl rfl, tyX1_ok, by decide +kernel⟩
set_option maxRecDepth 10000 in
theorem gl_2_0 : u_lay RX2 TX2 0 ∈ gTb := gmt1 184 rfl rfl
set_option maxRecDepth 10000 in
theorem gu_2 : ∀ w ∈ u_ws RX2 TX2 1, w ∈ gTb := by
  intro w hw
  obtain ⟨k, hk, rfl⟩ := List.mem_map.mp hw
  have := List.mem_range.mp hk
  match k, this with
  | 0, _ => exact gl_2_0
  | k + 1, h => exact absurd h (by omega)
set_option maxRecDepth 10000 in
theorem gcf_2 : gCF 2 := ⟨by decide, RX2, TX2, 1, tyX2, rfl, gu_2, nmX2, tyX2_ok⟩
set_option maxRecDepth 10000 in
theorem gcd_2 : gCD 2 := ⟨RX2, TX2, 1, tyX2, rfl, gmt1 178 rfl rfl, gmt1 9 rfl rfl, tyX2_ok, by decide +kernel⟩
set_option maxRecDepth 10000 in
theorem gl_3_0 : u_lay RX3 TX3 0 ∈ gTb := gmt1 161 rfl rfl
set_option maxRecDepth 10000 in
theorem gl_3_1 : u_lay RX3 TX3 1 ∈ gTb := gmt1 163 rfl rfl
set_option maxRecDepth 10000 in
theorem gl_3_2 : u_lay RX3 TX3 2 ∈ gTb := gmt1 165 rfl rfl
set_option maxRecDepth 10000 in
theorem gu_3 : ∀ w ∈ u_ws RX3 TX3 3, w ∈ gTb := by
  intro w hw
  obtain ⟨k, hk, rfl⟩ := List.mem_map.mp hw
  have := List.mem_range.mp hk
  match k, this with
  | 0, _ => exact gl_3_0
  | 1, _ => exact gl_3_1
  | 2, _ => exact gl_3_2
  | k + 3, h => exact absurd h (by omega)
set_option maxRecDepth 10000 in
theorem gcf_3 : gCF 3 := ⟨by decide, RX3, TX3, 3, tyX3, rfl, gu_3, nmX3, tyX3_ok⟩
set_option maxRecDepth 10000 in
theorem gcd_3 : gCD 3 := ⟨RX3, TX3, 3, tyX3, rfl, gmt1 109 rfl rfl, gmt1 6 rfl rfl, tyX3_ok, by decide +kernel⟩
set_option maxRecDepth 10000 in
theorem gl_4_0 : u_lay RX4 TX4 0 ∈ gTb := gmt1 229 rfl rfl
set_option maxRecDepth 10000 in
theorem gl_4_1 : u_lay RX4 TX4 1 ∈ gTb := gmt1 231 rfl rfl
set_option maxRecDepth 10000 in
theorem gl_4_2 : u_lay RX4 TX4 2 ∈ gTb := gmt1 233 rfl rfl
set_option maxRecDepth 10000 in
theorem gl_4_3 : u_lay RX4 TX4 3 ∈ gTb := gmt1 235 rfl rfl
set_option maxRecDepth 10000 in
theorem gl_4_4 : u_lay RX4 TX4 4 ∈ gTb := gmt1 237 rfl rfl
set_option maxRecDepth 10000 in
theorem gl_4_5 : u_lay RX4 TX4 5 ∈ gTb := gmt1 239 rfl rfl
set_option maxRecDepth 10000 in
theorem gu_4 : ∀ w ∈ u_ws RX4 TX4 6, w ∈ gTb := by
  intro w hw
  obtain ⟨k, hk, rfl⟩ := List.mem_map.mp hw
  have := List.mem_range.mp hk
  match k, this with
  | 0, _ => exact gl_4_0
  | 1, _ => exact gl_4_1
  | 2, _ => exact gl_4_2
  | 3, _ => exact gl_4_3
  | 4, _ => exact gl_4_4
  | 5, _ => exact gl_4_5
  | k + 6, h => exact absurd h (by omega)
set_option maxRecDepth 10000 in
theorem gcf_4 : gCF 4 := ⟨by decide, RX4, TX4, 6, tyX4, rfl, gu_4, nmX4, tyX4_ok⟩
set_option maxRecDepth 10000 in
theorem gcd_4 : gCD 4 := ⟨RX4, TX4, 6, tyX4, rfl, gmt1 215 rfl rfl, gmt1 10 rfl rfl, tyX4_ok, by decide +kernel⟩
set_option maxRecDepth 10000 in
theorem gl_5_0 : u_lay RX5 TX5 0 ∈ gTb := gmt1 197 rfl rfl
set_option maxRecDepth 10000 in
theorem gl_5_1 : u_lay RX5 TX5 1 ∈ gTb := gmt1 199 rfl rfl
set_option maxRecDepth 10000 in
theorem gl_5_2 : u_lay RX5 TX5 2 ∈ gTb := gmt1 201 rfl rfl
set_option maxRecDepth 10000 in
theorem gl_5_3 : u_lay RX5 TX5 3 ∈ gTb := gmt1 203 rfl rfl
set_option maxRecDepth 10000 in
theorem gl_5_4 : u_lay RX5 TX5 4 ∈ gTb := gmt1 205 rfl rfl
set_option maxRecDepth 10000 in
theorem gl_5_5 : u_lay RX5 TX5 5 ∈ gTb := gmt1 207 rfl rfl
set_option maxRecDepth 10000 in
theorem gl_5_6 : u_lay RX5 TX5 6 ∈ gTb := gmt1 209 rfl rfl
set_option maxRecDepth 10000 in
theorem gl_5_7 : u_lay RX5 TX5 7 ∈ gTb := gmt1 211 rfl rfl
set_option maxRecDepth 10000 in
theorem gu_5 : ∀ w ∈ u_ws RX5 TX5 8, w ∈ gTb := by
  intro w hw
  obtain ⟨k, hk, rfl⟩ := List.mem_map.mp hw
  have := List.mem_range.mp hk
  match k, this with
  | 0, _ => exact gl_5_0
  | 1, _ => exact gl_5_1
  | 2, _ => exact gl_5_2
  | 3, _ => exact gl_5_3
  | 4, _ => exact gl_5_4
  | 5, _ => exact gl_5_5
  | 6, _ => exact gl_5_6
  | 7, _ => exact gl_5_7
  | k + 8, h => exact absurd h (by omega)
set_option maxRecDepth 10000 in
theorem gcf_5 : gCF 5 := ⟨by decide, RX5, TX5, 8, tyX5, rfl, gu_5, nmX5, tyX5_ok⟩
set_option maxRecDepth 10000 in
theorem gcd_5 : gCD 5 := ⟨RX5, TX5, 8, tyX5, rfl, gmt1 169 rfl rfl, gmt1 8 rfl rfl, tyX5_ok, by decide +kernel⟩
set_option maxRecDepth 10000 in
theorem gl_6_0 : u_lay RX6 TX6 0 ∈ gTb := gmt1 89 rfl rfl
set_option maxRecDepth 10000 in
theorem gl_6_1 : u_lay RX6 TX6 1 ∈ gTb := gmt1 91 rfl rfl
set_option maxRecDepth 10000 in
theorem gl_6_2 : u_lay RX6 TX6 2 ∈ gTb := gmt1 93 rfl rfl
set_option maxRecDepth 10000 in
theorem gl_6_3 : u_lay RX6 TX6 3 ∈ gTb := gmt1 95 rfl rfl
set_option maxRecDepth 10000 in
theorem gl_6_4 : u_lay RX6 TX6 4 ∈ gTb := gmt1 97 rfl rfl
set_option maxRecDepth 10000 in
theorem gl_6_5 : u_lay RX6 TX6 5 ∈ gTb := gmt1 99 rfl rfl
set_option maxRecDepth 10000 in
theorem gl_6_6 : u_lay RX6 TX6 6 ∈ gTb := gmt1 101 rfl rfl
set_option maxRecDepth 10000 in
theorem gl_6_7 : u_lay RX6 TX6 7 ∈ gTb := gmt1 103 rfl rfl
set_option maxRecDepth 10000 in
theorem gl_6_8 : u_lay RX6 TX6 8 ∈ gTb := gmt1 105 rfl rfl
set_option maxRecDepth 10000 in
theorem gu_6 : ∀ w ∈ u_ws RX6 TX6 9, w ∈ gTb := by
  intro w hw
  obtain ⟨k, hk, rfl⟩ := List.mem_map.mp hw
  have := List.mem_range.mp hk
  match k, this with
  | 0, _ => exact gl_6_0
  | 1, _ => exact gl_6_1
  | 2, _ => exact gl_6_2
  | 3, _ => exact gl_6_3
  | 4, _ => exact gl_6_4
  | 5, _ => exact gl_6_5
  | 6, _ => exact gl_6_6
  | 7, _ => exact gl_6_7
  | 8, _ => exact gl_6_8
  | k + 9, h => exact absurd h (by omega)
set_option maxRecDepth 10000 in
theorem gcf_6 : gCF 6 := ⟨by decide, RX6, TX6, 9, tyX6, rfl, gu_6, nmX6, tyX6_ok⟩
set_option maxRecDepth 10000 in
theorem gcd_6 : gCD 6 := ⟨RX6, TX6, 9, tyX6, rfl, gmt1 49 rfl rfl, gmt1 3 rfl rfl, tyX6_ok, by decide +kernel⟩
set_option maxRecDepth 10000 in
theorem gl_7_0 : u_lay RX7 TX7 0 ∈ gTb := gmt1 72 rfl rfl
set_option maxRecDepth 10000 in
theorem gl_7_1 : u_lay RX7 TX7 1 ∈ gTb := gmt1 74 rfl rfl
set_option maxRecDepth 10000 in
theorem gu_7 : ∀ w ∈ u_ws RX7 TX7 2, w ∈ gTb := by
  intro w hw
  obtain ⟨k, hk, rfl⟩ := List.mem_map.mp hw
  have := List.mem_range.mp hk
  match k, this with
  | 0, _ => exact gl_7_0
  | 1, _ => exact gl_7_1
  | k + 2, h => exact absurd h (by omega)
set_option maxRecDepth 10000 in
theorem gcf_7 : gCF 7 := ⟨by decide, RX7, TX7, 2, tyX7, rfl, gu_7, nmX7, tyX7_ok⟩
set_option maxRecDepth 10000 in
theorem gcd_7 : gCD 7 := ⟨RX7, TX7, 2, tyX7, rfl, gmt1 55 rfl rfl, gmt1 4 rfl rfl, tyX7_ok, by decide +kernel⟩
set_option maxRecDepth 10000 in
theorem gl_8_0 : u_lay RX8 TX8 0 ∈ gTb := gmt2 98 rfl rfl
set_option maxRecDepth 10000 in
theorem gl_8_1 : u_lay RX8 TX8 1 ∈ gTb := gmt2 100 rfl rfl
set_option maxRecDepth 10000 in
theorem gl_8_2 : u_lay RX8 TX8 2 ∈ gTb := gmt2 102 rfl rfl
set_option maxRecDepth 10000 in
theorem gl_8_3 : u_lay RX8 TX8 3 ∈ gTb := gmt2 104 rfl rfl
set_option maxRecDepth 10000 in
theorem gl_8_4 : u_lay RX8 TX8 4 ∈ gTb := gmt2 106 rfl rfl
set_option maxRecDepth 10000 in
theorem gl_8_5 : u_lay RX8 TX8 5 ∈ gTb := gmt2 108 rfl rfl
set_option maxRecDepth 10000 in
theorem gl_8_6 : u_lay RX8 TX8 6 ∈ gTb := gmt2 110 rfl rfl
set_option maxRecDepth 10000 in
theorem gl_8_7 : u_lay RX8 TX8 7 ∈ gTb := gmt2 112 rfl rfl
set_option maxRecDepth 10000 in
theorem gl_8_8 : u_lay RX8 TX8 8 ∈ gTb := gmt2 114 rfl rfl
set_option maxRecDepth 10000 in
theorem gl_8_9 : u_lay RX8 TX8 9 ∈ gTb := gmt2 116 rfl rfl
set_option maxRecDepth 10000 in
theorem gl_8_10 : u_lay RX8 TX8 10 ∈ gTb := gmt2 118 rfl rfl
set_option maxRecDepth 10000 in
theorem gl_8_11 : u_lay RX8 TX8 11 ∈ gTb := gmt2 120 rfl rfl
set_option maxRecDepth 10000 in
theorem gl_8_12 : u_lay RX8 TX8 12 ∈ gTb := gmt2 122 rfl rfl
set_option maxRecDepth 10000 in
theorem gl_8_13 : u_lay RX8 TX8 13 ∈ gTb := gmt2 124 rfl rfl
set_option maxRecDepth 10000 in
theorem gl_8_14 : u_lay RX8 TX8 14 ∈ gTb := gmt2 126 rfl rfl
set_option maxRecDepth 10000 in
theorem gu_8 : ∀ w ∈ u_ws RX8 TX8 15, w ∈ gTb := by
  intro w hw
  obtain ⟨k, hk, rfl⟩ := List.mem_map.mp hw
  have := List.mem_range.mp hk
  match k, this with
  | 0, _ => exact gl_8_0
  | 1, _ => exact gl_8_1
  | 2, _ => exact gl_8_2
  | 3, _ => exact gl_8_3
  | 4, _ => exact gl_8_4
  | 5, _ => exact gl_8_5
  | 6, _ => exact gl_8_6
  | 7, _ => exact gl_8_7
  | 8, _ => exact gl_8_8
  | 9, _ => exact gl_8_9
  | 10, _ => exact gl_8_10
  | 11, _ => exact gl_8_11
  | 12, _ => exact gl_8_12
  | 13, _ => exact gl_8_13
  | 14, _ => exact gl_8_14
  | k + 15, h => exact absurd h (by omega)
set_option maxRecDepth 10000 in
theorem gcf_8 : gCF 8 := ⟨by decide, RX8, TX8, 15, tyX8, rfl, gu_8, nmX8, tyX8_ok⟩
set_option maxRecDepth 10000 in
theorem gcd_8 : gCD 8 := ⟨RX8, TX8, 15, tyX8, rfl, gmt2 62 rfl rfl, gmt1 13 rfl rfl, tyX8_ok, by decide +kernel⟩
set_option maxRecDepth 10000 in
theorem gl_9_0 : u_lay RX9 TX9 0 ∈ gTb := gmt2 28 rfl rfl
set_option maxRecDepth 10000 in
theorem gl_9_1 : u_lay RX9 TX9 1 ∈ gTb := gmt2 30 rfl rfl
set_option maxRecDepth 10000 in
theorem gl_9_2 : u_lay RX9 TX9 2 ∈ gTb := gmt2 32 rfl rfl
set_option maxRecDepth 10000 in
theorem gl_9_3 : u_lay RX9 TX9 3 ∈ gTb := gmt2 34 rfl rfl
set_option maxRecDepth 10000 in
theorem gl_9_4 : u_lay RX9 TX9 4 ∈ gTb := gmt2 36 rfl rfl
set_option maxRecDepth 10000 in
theorem gl_9_5 : u_lay RX9 TX9 5 ∈ gTb := gmt2 38 rfl rfl
set_option maxRecDepth 10000 in
theorem gl_9_6 : u_lay RX9 TX9 6 ∈ gTb := gmt2 40 rfl rfl
set_option maxRecDepth 10000 in
theorem gl_9_7 : u_lay RX9 TX9 7 ∈ gTb := gmt2 42 rfl rfl
set_option maxRecDepth 10000 in
theorem gl_9_8 : u_lay RX9 TX9 8 ∈ gTb := gmt2 44 rfl rfl
set_option maxRecDepth 10000 in
theorem gl_9_9 : u_lay RX9 TX9 9 ∈ gTb := gmt2 46 rfl rfl
set_option maxRecDepth 10000 in
theorem gl_9_10 : u_lay RX9 TX9 10 ∈ gTb := gmt2 48 rfl rfl
set_option maxRecDepth 10000 in
theorem gl_9_11 : u_lay RX9 TX9 11 ∈ gTb := gmt2 50 rfl rfl
set_option maxRecDepth 10000 in
theorem gu_9 : ∀ w ∈ u_ws RX9 TX9 12, w ∈ gTb := by
  intro w hw
  obtain ⟨k, hk, rfl⟩ := List.mem_map.mp hw
  have := List.mem_range.mp hk
  match k, this with
  | 0, _ => exact gl_9_0
  | 1, _ => exact gl_9_1
  | 2, _ => exact gl_9_2
  | 3, _ => exact gl_9_3
  | 4, _ => exact gl_9_4
  | 5, _ => exact gl_9_5
  | 6, _ => exact gl_9_6
  | 7, _ => exact gl_9_7
  | 8, _ => exact gl_9_8
  | 9, _ => exact gl_9_9
  | 10, _ => exact gl_9_10
  | 11, _ => exact gl_9_11
  | k + 12, h => exact absurd h (by omega)
set_option maxRecDepth 10000 in
theorem gcf_9 : gCF 9 := ⟨by decide, RX9, TX9, 12, tyX9, rfl, gu_9, nmX9, tyX9_ok⟩
set_option maxRecDepth 10000 in
theorem gcd_9 : gCD 9 := ⟨RX9, TX9, 12, tyX9, rfl, gmt2 3 rfl rfl, gmt1 11 rfl rfl, tyX9_ok, by decide +kernel⟩
set_option maxRecDepth 10000 in
theorem gl_10_0 : u_lay RX10 TX10 0 ∈ gTb := gmt1 42 rfl rfl
set_option maxRecDepth 10000 in
theorem gl_10_1 : u_lay RX10 TX10 1 ∈ gTb := gmt1 44 rfl rfl
set_option maxRecDepth 10000 in
theorem gu_10 : ∀ w ∈ u_ws RX10 TX10 2, w ∈ gTb := by
  intro w hw
  obtain ⟨k, hk, rfl⟩ := List.mem_map.mp hw
  have := List.mem_range.mp hk
  match k, this with
  | 0, _ => exact gl_10_0
  | 1, _ => exact gl_10_1
  | k + 2, h => exact absurd h (by omega)
set_option maxRecDepth 10000 in
theorem gcf_10 : gCF 10 := ⟨by decide, RX10, TX10, 2, tyX10, rfl, gu_10, nmX10, tyX10_ok⟩
set_option maxRecDepth 10000 in
theorem gcd_10 : gCD 10 := ⟨RX10, TX10, 2, tyX10, rfl, gmt1 31 rfl rfl, gmt1 2 rfl rfl, tyX10_ok, by decide +kernel⟩
set_option maxRecDepth 10000 in
theorem gl_11_0 : u_lay RX11 TX11 0 ∈ gTb := gmt3 36 rfl rfl
set_option maxRecDepth 10000 in
theorem gl_11_1 : u_lay RX11 TX11 1 ∈ gTb := gmt3 38 rfl rfl
set_option maxRecDepth 10000 in
theorem gl_11_2 : u_lay RX11 TX11 2 ∈ gTb := gmt3 40 rfl rfl
set_option maxRecDepth 10000 in
theorem gl_11_3 : u_lay RX11 TX11 3 ∈ gTb := gmt3 42 rfl rfl
set_option maxRecDepth 10000 in
theorem gl_11_4 : u_lay RX11 TX11 4 ∈ gTb := gmt3 44 rfl rfl
set_option maxRecDepth 10000 in
theorem gl_11_5 : u_lay RX11 TX11 5 ∈ gTb := gmt3 46 rfl rfl
set_option maxRecDepth 10000 in
theorem gl_11_6 : u_lay RX11 TX11 6 ∈ gTb := gmt3 48 rfl rfl
set_option maxRecDepth 10000 in
theorem gl_11_7 : u_lay RX11 TX11 7 ∈ gTb := gmt3 50 rfl rfl
set_option maxRecDepth 10000 in
theorem gl_11_8 : u_lay RX11 TX11 8 ∈ gTb := gmt3 52 rfl rfl
set_option maxRecDepth 10000 in
theorem gl_11_9 : u_lay RX11 TX11 9 ∈ gTb := gmt3 54 rfl rfl
set_option maxRecDepth 10000 in
theorem gu_11 : ∀ w ∈ u_ws RX11 TX11 10, w ∈ gTb := by
  intro w hw
  obtain ⟨k, hk, rfl⟩ := List.mem_map.mp hw
  have := List.mem_range.mp hk
  match k, this with
  | 0, _ => exact gl_11_0
  | 1, _ => exact gl_11_1
  | 2, _ => exact gl_11_2
  | 3, _ => exact gl_11_3
  | 4, _ => exact gl_11_4
  | 5, _ => exact gl_11_5
  | 6, _ => exact gl_11_6
  | 7, _ => exact gl_11_7
  | 8, _ => exact gl_11_8
  | 9, _ => exact gl_11_9
  | k + 10, h => exact absurd h (by omega)
set_option maxRecDepth 10000 in
theorem gcf_11 : gCF 11 := ⟨by decide, RX11, TX11, 10, tyX11, rfl, gu_11, nmX11, tyX11_ok⟩
set_option maxRecDepth 10000 in
theorem gcd_11 : gCD 11 := ⟨RX11, TX11, 10, tyX11, rfl, gmt1 23 rfl rfl, gmt1 1 rfl rfl, tyX11_ok, by decide +kernel⟩
set_option maxRecDepth 10000 in
theorem gl_12_0 : u_lay RX12 TX12 0 ∈ gTb := gmt6 54 rfl rfl
set_option maxRecDepth 10000 in
theorem gl_12_1 : u_lay RX12 TX12 1 ∈ gTb := gmt6 56 rfl rfl
set_option maxRecDepth 10000 in
theorem gl_12_2 : u_lay RX12 TX12 2 ∈ gTb := gmt6 58 rfl rfl
set_option maxRecDepth 10000 in
theorem gl_12_3 : u_lay RX12 TX12 3 ∈ gTb := gmt6 60 rfl rfl
set_option maxRecDepth 10000 in
theorem gl_12_4 : u_lay RX12 TX12 4 ∈ gTb := gmt6 62 rfl rfl
set_option maxRecDepth 10000 in
theorem gl_12_5 : u_lay RX12 TX12 5 ∈ gTb := gmt6 64 rfl rfl
set_option maxRecDepth 10000 in
theorem gl_12_6 : u_lay RX12 TX12 6 ∈ gTb := gmt6 66 rfl rfl
set_option maxRecDepth 10000 in
theorem gl_12_7 : u_lay RX12 TX12 7 ∈ gTb := gmt6 68 rfl rfl
set_option maxRecDepth 10000 in
theorem gl_12_8 : u_lay RX12 TX12 8 ∈ gTb := gmt6 70 rfl rfl
set_option maxRecDepth 10000 in
theorem gl_12_9 : u_lay RX12 TX12 9 ∈ gTb := gmt6 72 rfl rfl
set_option maxRecDepth 10000 in
theorem gl_12_10 : u_lay RX12 TX12 10 ∈ gTb := gmt6 74 rfl rfl
set_option maxRecDepth 10000 in
theorem gl_12_11 : u_lay RX12 TX12 11 ∈ gTb := gmt6 76 rfl rfl
set_option maxRecDepth 10000 in
theorem gl_12_12 : u_lay RX12 TX12 12 ∈ gTb := gmt6 78 rfl rfl
set_option maxRecDepth 10000 in
theorem gl_12_13 : u_lay RX12 TX12 13 ∈ gTb := gmt6 80 rfl rfl
set_option maxRecDepth 10000 in
theorem gl_12_14 : u_lay RX12 TX12 14 ∈ gTb := gmt6 82 rfl rfl
set_option maxRecDepth 10000 in
theorem gl_12_15 : u_lay RX12 TX12 15 ∈ gTb := gmt6 84 rfl rfl
set_option maxRecDepth 10000 in
theorem gl_12_16 : u_lay RX12 TX12 16 ∈ gTb := gmt6 86 rfl rfl
set_option maxRecDepth 10000 in
theorem gl_12_17 : u_lay RX12 TX12 17 ∈ gTb := gmt6 88 rfl rfl
set_option maxRecDepth 10000 in
theorem gl_12_18 : u_lay RX12 TX12 18 ∈ gTb := gmt6 90 rfl rfl
set_option maxRecDepth 10000 in
theorem gl_12_19 : u_lay RX12 TX12 19 ∈ gTb := gmt6 92 rfl rfl
set_option maxRecDepth 10000 in
theorem gl_12_20 : u_lay RX12 TX12 20 ∈ gTb := gmt6 94 rfl rfl
set_option maxRecDepth 10000 in
theorem gl_12_21 : u_lay RX12 TX12 21 ∈ gTb := gmt6 96 rfl rfl
set_option maxRecDepth 10000 in
theorem gl_12_22 : u_lay RX12 TX12 22 ∈ gTb := gmt6 98 rfl rfl
set_option maxRecDepth 10000 in
theorem gl_12_23 : u_lay RX12 TX12 23 ∈ gTb := gmt6 100 rfl rfl
set_option maxRecDepth 10000 in
theorem gl_12_24 : u_lay RX12 TX12 24 ∈ gTb := gmt6 102 rfl rfl
set_option maxRecDepth 10000 in
theorem gl_12_25 : u_lay RX12 TX12 25 ∈ gTb := gmt6 104 rfl rfl
set_option maxRecDepth 10000 in
theorem gl_12_26 : u_lay RX12 TX12 26 ∈ gTb := gmt6 106 rfl rfl
set_option maxRecDepth 10000 in
theorem gl_12_27 : u_lay RX12 TX12 27 ∈ gTb := gmt6 108 rfl rfl
set_option maxRecDepth 10000 in
theorem gl_12_28 : u_lay RX12 TX12 28 ∈ gTb := gmt6 110 rfl rfl
set_option maxRecDepth 10000 in
theorem gl_12_29 : u_lay RX12 TX12 29 ∈ gTb := gmt6 112 rfl rfl
set_option maxRecDepth 10000 in
theorem gl_12_30 : u_lay RX12 TX12 30 ∈ gTb := gmt6 114 rfl rfl
set_option maxRecDepth 10000 in
theorem gl_12_31 : u_lay RX12 TX12 31 ∈ gTb := gmt6 116 rfl rfl
set_option maxRecDepth 10000 in
theorem gl_12_32 : u_lay RX12 TX12 32 ∈ gTb := gmt6 118 rfl rfl
set_option maxRecDepth 10000 in
theorem gl_12_33 : u_lay RX12 TX12 33 ∈ gTb := gmt6 120 rfl rfl
set_option maxRecDepth 10000 in
theorem gl_12_34 : u_lay RX12 TX12 34 ∈ gTb := gmt6 122 rfl rfl
set_option maxRecDepth 10000 in
theorem gl_12_35 : u_lay RX12 TX12 35 ∈ gTb := gmt6 124 rfl rfl
set_option maxRecDepth 10000 in
theorem gl_12_36 : u_lay RX12 TX12 36 ∈ gTb := gmt6 126 rfl rfl
set_option maxRecDepth 10000 in
theorem gl_12_37 : u_lay RX12 TX12 37 ∈ gTb := gmt6 128 rfl rfl
set_option maxRecDepth 10000 in
theorem gl_12_38 : u_lay RX12 TX12 38 ∈ gTb := gmt6 130 rfl rfl
set_option maxRecDepth 10000 in
theorem gl_12_39 : u_lay RX12 TX12 39 ∈ gTb := gmt6 132 rfl rfl
set_option maxRecDepth 10000 in
theorem gl_12_40 : u_lay RX12 TX12 40 ∈ gTb := gmt6 134 rfl rfl
set_option maxRecDepth 10000 in
theorem gl_12_41 : u_lay RX12 TX12 41 ∈ gTb := gmt6 136 rfl rfl
set_option maxRecDepth 10000 in
theorem gl_12_42 : u_lay RX12 TX12 42 ∈ gTb := gmt6 138 rfl rfl
set_option maxRecDepth 10000 in
theorem gl_12_43 : u_lay RX12 TX12 43 ∈ gTb := gmt6 140 rfl rfl
set_option maxRecDepth 10000 in
theorem gl_12_44 : u_lay RX12 TX12 44 ∈ gTb := gmt6 142 rfl rfl
set_option maxRecDepth 10000 in
theorem gl_12_45 : u_lay RX12 TX12 45 ∈ gTb := gmt6 144 rfl rfl
set_option maxRecDepth 10000 in
theorem gl_12_46 : u_lay RX12 TX12 46 ∈ gTb := gmt6 146 rfl rfl
set_option maxRecDepth 10000 in
theorem gu_12 : ∀ w ∈ u_ws RX12 TX12 47, w ∈ gTb := by
  intro w hw
  obtain ⟨k, hk, rfl⟩ := List.mem_map.mp hw
  have := List.mem_range.mp hk
  match k, this with
  | 0, _ => exact gl_12_0
  | 1, _ => exact gl_12_1
  | 2, _ => exact gl_12_2
  | 3, _ => exact gl_12_3
  | 4, _ => exact gl_12_4
  | 5, _ => exact gl_12_5
  | 6, _ => exact gl_12_6
  | 7, _ => exact gl_12_7
  | 8, _ => exact gl_12_8
  | 9, _ => exact gl_12_9
  | 10, _ => exact gl_12_10
  | 11, _ => exact gl_12_11
  | 12, _ => exact gl_12_12
  | 13, _ => exact gl_12_13
  | 14, _ => exact gl_12_14
  | 15, _ => exact gl_12_15
  | 16, _ => exact gl_12_16
  | 17, _ => exact gl_12_17
  | 18, _ => exact gl_12_18
  | 19, _ => exact gl_12_19
  | 20, _ => exact gl_12_20
  | 21, _ => exact gl_12_21
  | 22, _ => exact gl_12_22
  | 23, _ => exact gl_12_23
  | 24, _ => exact gl_12_24
  | 25, _ => exact gl_12_25
  | 26, _ => exact gl_12_26
  | 27, _ => exact gl_12_27
  | 28, _ => exact gl_12_28
  | 29, _ => exact gl_12_29
  | 30, _ => exact gl_12_30
  | 31, _ => exact gl_12_31
  | 32, _ => exact gl_12_32
  | 33, _ => exact gl_12_33
  | 34, _ => exact gl_12_34
  | 35, _ => exact gl_12_35
  | 36, _ => exact gl_12_36
  | 37, _ => exact gl_12_37
  | 38, _ => exact gl_12_38
  | 39, _ => exact gl_12_39
  | 40, _ => exact gl_12_40
  | 41, _ => exact gl_12_41
  | 42, _ => exact gl_12_42
  | 43, _ => exact gl_12_43
  | 44, _ => exact gl_12_44
  | 45, _ => exact gl_12_45
  | 46, _ => exact gl_12_46
  | k + 47, h => exact absurd h (by omega)
set_option maxRecDepth 10000 in
theorem gcf_12 : gCF 12 := ⟨by decide, RX12, TX12, 47, tyX12, rfl, gu_12, nmX12, tyX12_ok⟩
set_option maxRecDepth 10000 in
theorem gcd_12 : gCD 12 := ⟨RX12, TX12, 47, tyX12, rfl, gmt6 0 rfl rfl, gmt1 15 rfl rfl, tyX12_ok, by decide +kernel⟩
set_option maxRecDepth 10000 in
theorem gf_RX11_10 : gFL RX11 10 11 0 := ⟨RX11, TX11, 10, rfl, by decide, gmt3 26 rfl rfl⟩
set_option maxRecDepth 10000 in
theorem gf_RX11_19 : gFL RX11 19 11 1 := ⟨RX11, TX11, 10, rfl, by decide, gmt3 27 rfl rfl⟩
set_option maxRecDepth 10000 in
theorem gf_RX11_26 : gFL RX11 26 11 2 := ⟨RX11, TX11, 10, rfl, by decide, gmt3 28 rfl rfl⟩
set_option maxRecDepth 10000 in
theorem gf_RX11_35 : gFL RX11 35 11 3 := ⟨RX11, TX11, 10, rfl, by decide, gmt3 29 rfl rfl⟩
set_option maxRecDepth 10000 in
theorem gf_RX11_42 : gFL RX11 42 11 4 := ⟨RX11, TX11, 10, rfl, by decide, gmt3 30 rfl rfl⟩
set_option maxRecDepth 10000 in
theorem gf_RX11_49 : gFL RX11 49 11 5 := ⟨RX11, TX11, 10, rfl, by decide, gmt3 31 rfl rfl⟩
set_option maxRecDepth 10000 in
theorem gf_RX11_53 : gFL RX11 53 11 6 := ⟨RX11, TX11, 10, rfl, by decide, gmt3 32 rfl rfl⟩
set_option maxRecDepth 10000 in
theorem gf_RX11_60 : gFL RX11 60 11 7 := ⟨RX11, TX11, 10, rfl, by decide, gmt3 33 rfl rfl⟩
set_option maxRecDepth 10000 in
theorem gf_RX11_64 : gFL RX11 64 11 8 := ⟨RX11, TX11, 10, rfl, by decide, gmt3 34 rfl rfl⟩
set_option maxRecDepth 10000 in
theorem gf_RX11_67 : gFL RX11 67 11 9 := ⟨RX11, TX11, 10, rfl, by decide, gmt3 35 rfl rfl⟩
set_option maxRecDepth 10000 in
theorem gf_RX11_75 : gFL RX11 75 10 1 := ⟨RX10, TX10, 2, rfl, by decide, gmt1 39 rfl rfl⟩
set_option maxRecDepth 10000 in
theorem gf_RX11_94 : gFL RX11 94 6 0 := ⟨RX6, TX6, 9, rfl, by decide, gmt1 79 rfl rfl⟩
set_option maxRecDepth 10000 in
theorem gf_RX11_101 : gFL RX11 101 1 0 := ⟨RX1, TX1, 7, rfl, by decide, gmt2 132 rfl rfl⟩
set_option maxRecDepth 10000 in
theorem gf_RX11_104 : gFL RX11 104 1 1 := ⟨RX1, TX1, 7, rfl, by decide, gmt2 134 rfl rfl⟩
set_option maxRecDepth 10000 in
theorem gf_RX11_107 : gFL RX11 107 6 1 := ⟨RX6, TX6, 9, rfl, by decide, gmt1 81 rfl rfl⟩
set_option maxRecDepth 10000 in
theorem gf_RX11_113 : gFL RX11 113 9 8 := ⟨RX9, TX9, 12, rfl, by decide, gmt2 21 rfl rfl⟩
set_option maxRecDepth 10000 in
theorem gf_RX11_114 : gFL RX11 114 4 5 := ⟨RX4, TX4, 6, rfl, by decide, gmt1 228 rfl rfl⟩
set_option maxRecDepth 10000 in
theorem gf_RX11_179 : gFL RX11 179 8 1 := ⟨RX8, TX8, 15, rfl, by decide, gmt2 76 rfl rfl⟩
set_option maxRecDepth 10000 in
theorem gf_RX11_196 : gFL RX11 196 3 2 := ⟨RX3, TX3, 3, rfl, by decide, gmt1 160 rfl rfl⟩
set_option maxRecDepth 10000 in
theorem gf_RX11_210 : gFL RX11 210 9 9 := ⟨RX9, TX9, 12, rfl, by decide, gmt2 23 rfl rfl⟩
set_option maxRecDepth 10000 in
theorem gf_RX11_216 : gFL RX11 216 9 10 := ⟨RX9, TX9, 12, rfl, by decide, gmt2 25 rfl rfl⟩
set_option maxRecDepth 10000 in
theorem gf_RX11_219 : gFL RX11 219 9 11 := ⟨RX9, TX9, 12, rfl, by decide, gmt2 27 rfl rfl⟩
set_option maxRecDepth 10000 in
theorem gf_RX11_226 : gFL RX11 226 8 0 := ⟨RX8, TX8, 15, rfl, by decide, gmt2 72 rfl rfl⟩
set_option maxRecDepth 10000 in
theorem gf_RX11_236 : gFL RX11 236 8 2 := ⟨RX8, TX8, 15, rfl, by decide, gmt2 79 rfl rfl⟩
set_option maxRecDepth 10000 in
theorem gf_RX11_261 : gFL RX11 261 7 1 := ⟨RX7, TX7, 2, rfl, by decide, gmt1 71 rfl rfl⟩
set_option maxRecDepth 10000 in
theorem gf_RX0_41 : gFL RX0 41 0 0 := ⟨RX0, TX0, 8, rfl, by decide, gmt1 120 rfl rfl⟩
set_option maxRecDepth 10000 in
theorem gf_RX0_48 : gFL RX0 48 0 4 := ⟨RX0, TX0, 8, rfl, by decide, gmt1 131 rfl rfl⟩
set_option maxRecDepth 10000 in
theorem gf_RX0_51 : gFL RX0 51 0 1 := ⟨RX0, TX0, 8, rfl, by decide, gmt1 122 rfl rfl⟩
set_option maxRecDepth 10000 in
theorem gf_RX0_54 : gFL RX0 54 0 6 := ⟨RX0, TX0, 8, rfl, by decide, gmt1 137 rfl rfl⟩
set_option maxRecDepth 10000 in
theorem gf_RX0_57 : gFL RX0 57 0 7 := ⟨RX0, TX0, 8, rfl, by decide, gmt1 139 rfl rfl⟩
set_option maxRecDepth 10000 in
theorem gf_RX0_60 : gFL RX0 60 0 2 := ⟨RX0, TX0, 8, rfl, by decide, gmt1 125 rfl rfl⟩
set_option maxRecDepth 10000 in
theorem gf_RX0_63 : gFL RX0 63 0 3 := ⟨RX0, TX0, 8, rfl, by decide, gmt1 128 rfl rfl⟩
set_option maxRecDepth 10000 in
theorem gf_RX0_66 : gFL RX0 66 0 5 := ⟨RX0, TX0, 8, rfl, by decide, gmt1 134 rfl rfl⟩
set_option maxRecDepth 10000 in
theorem gf_RX1_11 : gFL RX1 11 1 3 := ⟨RX1, TX1, 7, rfl, by decide, gmt2 137 rfl rfl⟩
set_option maxRecDepth 10000 in
theorem gf_RX1_17 : gFL RX1 17 1 4 := ⟨RX1, TX1, 7, rfl, by decide, gmt2 138 rfl rfl⟩
set_option maxRecDepth 10000 in
theorem gf_RX1_21 : gFL RX1 21 1 5 := ⟨RX1, TX1, 7, rfl, by decide, gmt2 139 rfl rfl⟩
set_option maxRecDepth 10000 in
theorem gf_RX1_24 : gFL RX1 24 1 6 := ⟨RX1, TX1, 7, rfl, by decide, gmt2 140 rfl rfl⟩
set_option maxRecDepth 10000 in
theorem gf_RX1_28 : gFL RX1 28 1 0 := ⟨RX1, TX1, 7, rfl, by decide, gmt2 129 rfl rfl⟩
set_option maxRecDepth 10000 in
theorem gf_RX1_32 : gFL RX1 32 1 1 := ⟨RX1, TX1, 7, rfl, by decide, gmt2 133 rfl rfl⟩
set_option maxRecDepth 10000 in
theorem gf_RX1_35 : gFL RX1 35 1 2 := ⟨RX1, TX1, 7, rfl, by decide, gmt2 136 rfl rfl⟩
set_option maxRecDepth 10000 in
theorem gf_RX2_11 : gFL RX2 11 2 0 := ⟨RX2, TX2, 1, rfl, by decide, gmt1 183 rfl rfl⟩
set_option maxRecDepth 10000 in
theorem gf_RX3_12 : gFL RX3 12 3 0 := ⟨RX3, TX3, 3, rfl, by decide, gmt1 157 rfl rfl⟩
set_option maxRecDepth 10000 in
theorem gf_RX3_18 : gFL RX3 18 3 1 := ⟨RX3, TX3, 3, rfl, by decide, gmt1 158 rfl rfl⟩
set_option maxRecDepth 10000 in
theorem gf_RX3_26 : gFL RX3 26 0 1 := ⟨RX0, TX0, 8, rfl, by decide, gmt1 121 rfl rfl⟩
set_option maxRecDepth 10000 in
theorem gf_RX3_30 : gFL RX3 30 0 2 := ⟨RX0, TX0, 8, rfl, by decide, gmt1 123 rfl rfl⟩
set_option maxRecDepth 10000 in
theorem gf_RX3_33 : gFL RX3 33 0 3 := ⟨RX0, TX0, 8, rfl, by decide, gmt1 126 rfl rfl⟩
set_option maxRecDepth 10000 in
theorem gf_RX3_36 : gFL RX3 36 0 4 := ⟨RX0, TX0, 8, rfl, by decide, gmt1 129 rfl rfl⟩
set_option maxRecDepth 10000 in
theorem gf_RX3_39 : gFL RX3 39 0 6 := ⟨RX0, TX0, 8, rfl, by decide, gmt1 135 rfl rfl⟩
set_option maxRecDepth 10000 in
theorem gf_RX3_42 : gFL RX3 42 0 5 := ⟨RX0, TX0, 8, rfl, by decide, gmt1 132 rfl rfl⟩
set_option maxRecDepth 10000 in
theorem gf_RX3_45 : gFL RX3 45 8 1 := ⟨RX8, TX8, 15, rfl, by decide, gmt2 73 rfl rfl⟩
set_option maxRecDepth 10000 in
theorem gf_RX3_59 : gFL RX3 59 3 2 := ⟨RX3, TX3, 3, rfl, by decide, gmt1 159 rfl rfl⟩
set_option maxRecDepth 10000 in
theorem gf_RX3_69 : gFL RX3 69 8 14 := ⟨RX8, TX8, 15, rfl, by decide, gmt2 96 rfl rfl⟩
set_option maxRecDepth 10000 in
theorem gf_RX3_73 : gFL RX3 73 7 1 := ⟨RX7, TX7, 2, rfl, by decide, gmt1 66 rfl rfl⟩
set_option maxRecDepth 10000 in
theorem gf_RX3_80 : gFL RX3 80 8 6 := ⟨RX8, TX8, 15, rfl, by decide, gmt2 85 rfl rfl⟩
set_option maxRecDepth 10000 in
theorem gf_RX3_83 : gFL RX3 83 8 7 := ⟨RX8, TX8, 15, rfl, by decide, gmt2 88 rfl rfl⟩
set_option maxRecDepth 10000 in
theorem gf_RX3_86 : gFL RX3 86 8 2 := ⟨RX8, TX8, 15, rfl, by decide, gmt2 78 rfl rfl⟩
set_option maxRecDepth 10000 in
theorem gf_RX4_9 : gFL RX4 9 4 0 := ⟨RX4, TX4, 6, rfl, by decide, gmt1 222 rfl rfl⟩
set_option maxRecDepth 10000 in
theorem gf_RX4_15 : gFL RX4 15 4 1 := ⟨RX4, TX4, 6, rfl, by decide, gmt1 223 rfl rfl⟩
set_option maxRecDepth 10000 in
theorem gf_RX4_18 : gFL RX4 18 4 2 := ⟨RX4, TX4, 6, rfl, by decide, gmt1 224 rfl rfl⟩
set_option maxRecDepth 10000 in
theorem gf_RX4_23 : gFL RX4 23 4 3 := ⟨RX4, TX4, 6, rfl, by decide, gmt1 225 rfl rfl⟩
set_option maxRecDepth 10000 in
theorem gf_RX4_30 : gFL RX4 30 4 5 := ⟨RX4, TX4, 6, rfl, by decide, gmt1 227 rfl rfl⟩
set_option maxRecDepth 10000 in
theorem gf_RX4_38 : gFL RX4 38 4 4 := ⟨RX4, TX4, 6, rfl, by decide, gmt1 226 rfl rfl⟩
set_option maxRecDepth 10000 in
theorem gf_RX5_11 : gFL RX5 11 5 1 := ⟨RX5, TX5, 8, rfl, by decide, gmt1 190 rfl rfl⟩
set_option maxRecDepth 10000 in
theorem gf_RX5_17 : gFL RX5 17 5 2 := ⟨RX5, TX5, 8, rfl, by decide, gmt1 191 rfl rfl⟩
set_option maxRecDepth 10000 in
theorem gf_RX5_22 : gFL RX5 22 5 3 := ⟨RX5, TX5, 8, rfl, by decide, gmt1 192 rfl rfl⟩
set_option maxRecDepth 10000 in
theorem gf_RX5_26 : gFL RX5 26 5 4 := ⟨RX5, TX5, 8, rfl, by decide, gmt1 193 rfl rfl⟩
set_option maxRecDepth 10000 in
theorem gf_RX5_29 : gFL RX5 29 5 0 := ⟨RX5, TX5, 8, rfl, by decide, gmt1 189 rfl rfl⟩
set_option maxRecDepth 10000 in
theorem gf_RX5_37 : gFL RX5 37 5 5 := ⟨RX5, TX5, 8, rfl, by decide, gmt1 194 rfl rfl⟩
set_option maxRecDepth 10000 in
theorem gf_RX5_44 : gFL RX5 44 1 0 := ⟨RX1, TX1, 7, rfl, by decide, gmt2 130 rfl rfl⟩
set_option maxRecDepth 10000 in
theorem gf_RX5_53 : gFL RX5 53 5 7 := ⟨RX5, TX5, 8, rfl, by decide, gmt1 196 rfl rfl⟩
set_option maxRecDepth 10000 in
theorem gf_RX5_60 : gFL RX5 60 8 0 := ⟨RX8, TX8, 15, rfl, by decide, gmt2 69 rfl rfl⟩
set_option maxRecDepth 10000 in
theorem gf_RX5_82 : gFL RX5 82 7 1 := ⟨RX7, TX7, 2, rfl, by decide, gmt1 68 rfl rfl⟩
set_option maxRecDepth 10000 in
theorem gf_RX5_117 : gFL RX5 117 5 6 := ⟨RX5, TX5, 8, rfl, by decide, gmt1 195 rfl rfl⟩
set_option maxRecDepth 10000 in
theorem gf_RX6_9 : gFL RX6 9 6 1 := ⟨RX6, TX6, 9, rfl, by decide, gmt1 80 rfl rfl⟩
set_option maxRecDepth 10000 in
theorem gf_RX6_15 : gFL RX6 15 6 2 := ⟨RX6, TX6, 9, rfl, by decide, gmt1 82 rfl rfl⟩
set_option maxRecDepth 10000 in
theorem gf_RX6_24 : gFL RX6 24 6 8 := ⟨RX6, TX6, 9, rfl, by decide, gmt1 88 rfl rfl⟩
set_option maxRecDepth 10000 in
theorem gf_RX6_28 : gFL RX6 28 10 0 := ⟨RX10, TX10, 2, rfl, by decide, gmt1 37 rfl rfl⟩
set_option maxRecDepth 10000 in
theorem gf_RX6_33 : gFL RX6 33 10 1 := ⟨RX10, TX10, 2, rfl, by decide, gmt1 41 rfl rfl⟩
set_option maxRecDepth 10000 in
theorem gf_RX6_42 : gFL RX6 42 6 3 := ⟨RX6, TX6, 9, rfl, by decide, gmt1 83 rfl rfl⟩
set_option maxRecDepth 10000 in
theorem gf_RX6_45 : gFL RX6 45 6 7 := ⟨RX6, TX6, 9, rfl, by decide, gmt1 87 rfl rfl⟩
set_option maxRecDepth 10000 in
theorem gf_RX6_54 : gFL RX6 54 6 0 := ⟨RX6, TX6, 9, rfl, by decide, gmt1 78 rfl rfl⟩
set_option maxRecDepth 10000 in
theorem gf_RX6_57 : gFL RX6 57 6 4 := ⟨RX6, TX6, 9, rfl, by decide, gmt1 84 rfl rfl⟩
set_option maxRecDepth 10000 in
theorem gf_RX6_60 : gFL RX6 60 6 6 := ⟨RX6, TX6, 9, rfl, by decide, gmt1 86 rfl rfl⟩
set_option maxRecDepth 10000 in
theorem gf_RX6_80 : gFL RX6 80 6 5 := ⟨RX6, TX6, 9, rfl, by decide, gmt1 85 rfl rfl⟩
set_option maxRecDepth 10000 in
theorem gf_RX6_95 : gFL RX6 95 1 0 := ⟨RX1, TX1, 7, rfl, by decide, gmt2 131 rfl rfl⟩
set_option maxRecDepth 10000 in
theorem gf_RX6_116 : gFL RX6 116 8 0 := ⟨RX8, TX8, 15, rfl, by decide, gmt2 70 rfl rfl⟩
set_option maxRecDepth 10000 in
theorem gf_RX6_125 : gFL RX6 125 8 1 := ⟨RX8, TX8, 15, rfl, by decide, gmt2 74 rfl rfl⟩
set_option maxRecDepth 10000 in
theorem gf_RX6_145 : gFL RX6 145 8 6 := ⟨RX8, TX8, 15, rfl, by decide, gmt2 84 rfl rfl⟩
set_option maxRecDepth 10000 in
theorem gf_RX6_148 : gFL RX6 148 8 7 := ⟨RX8, TX8, 15, rfl, by decide, gmt2 87 rfl rfl⟩
set_option maxRecDepth 10000 in
theorem gf_RX6_164 : gFL RX6 164 8 14 := ⟨RX8, TX8, 15, rfl, by decide, gmt2 97 rfl rfl⟩
set_option maxRecDepth 10000 in
theorem gf_RX6_185 : gFL RX6 185 7 1 := ⟨RX7, TX7, 2, rfl, by decide, gmt1 69 rfl rfl⟩
set_option maxRecDepth 10000 in
theorem gf_RX6_191 : gFL RX6 191 1 1 := ⟨RX1, TX1, 7, rfl, by decide, gmt2 135 rfl rfl⟩
set_option maxRecDepth 10000 in
theorem gf_RX7_15 : gFL RX7 15 7 0 := ⟨RX7, TX7, 2, rfl, by decide, gmt1 63 rfl rfl⟩
set_option maxRecDepth 10000 in
theorem gf_RX7_21 : gFL RX7 21 7 1 := ⟨RX7, TX7, 2, rfl, by decide, gmt1 65 rfl rfl⟩
set_option maxRecDepth 10000 in
theorem gf_RX8_14 : gFL RX8 14 8 13 := ⟨RX8, TX8, 15, rfl, by decide, gmt2 94 rfl rfl⟩
set_option maxRecDepth 10000 in
theorem gf_RX8_20 : gFL RX8 20 8 14 := ⟨RX8, TX8, 15, rfl, by decide, gmt2 95 rfl rfl⟩
set_option maxRecDepth 10000 in
theorem gf_RX8_23 : gFL RX8 23 8 8 := ⟨RX8, TX8, 15, rfl, by decide, gmt2 89 rfl rfl⟩
set_option maxRecDepth 10000 in
theorem gf_RX8_27 : gFL RX8 27 8 9 := ⟨RX8, TX8, 15, rfl, by decide, gmt2 90 rfl rfl⟩
set_option maxRecDepth 10000 in
theorem gf_RX8_30 : gFL RX8 30 8 10 := ⟨RX8, TX8, 15, rfl, by decide, gmt2 91 rfl rfl⟩
set_option maxRecDepth 10000 in
theorem gf_RX8_33 : gFL RX8 33 8 11 := ⟨RX8, TX8, 15, rfl, by decide, gmt2 92 rfl rfl⟩
set_option maxRecDepth 10000 in
theorem gf_RX8_36 : gFL RX8 36 8 12 := ⟨RX8, TX8, 15, rfl, by decide, gmt2 93 rfl rfl⟩
set_option maxRecDepth 10000 in
theorem gf_RX8_42 : gFL RX8 42 8 6 := ⟨RX8, TX8, 15, rfl, by decide, gmt2 83 rfl rfl⟩
set_option maxRecDepth 10000 in
theorem gf_RX8_45 : gFL RX8 45 8 7 := ⟨RX8, TX8, 15, rfl, by decide, gmt2 86 rfl rfl⟩
set_option maxRecDepth 10000 in
theorem gf_RX8_54 : gFL RX8 54 8 2 := ⟨RX8, TX8, 15, rfl, by decide, gmt2 77 rfl rfl⟩
set_option maxRecDepth 10000 in
theorem gf_RX8_60 : gFL RX8 60 8 3 := ⟨RX8, TX8, 15, rfl, by decide, gmt2 80 rfl rfl⟩
set_option maxRecDepth 10000 in
theorem gf_RX8_67 : gFL RX8 67 8 4 := ⟨RX8, TX8, 15, rfl, by decide, gmt2 81 rfl rfl⟩
set_option maxRecDepth 10000 in
theorem gf_RX8_73 : gFL RX8 73 8 5 := ⟨RX8, TX8, 15, rfl, by decide, gmt2 82 rfl rfl⟩
set_option maxRecDepth 10000 in
theorem gf_RX8_76 : gFL RX8 76 7 1 := ⟨RX7, TX7, 2, rfl, by decide, gmt1 67 rfl rfl⟩
set_option maxRecDepth 10000 in
theorem gf_RX8_86 : gFL RX8 86 8 0 := ⟨RX8, TX8, 15, rfl, by decide, gmt2 71 rfl rfl⟩
set_option maxRecDepth 10000 in
theorem gf_RX8_89 : gFL RX8 89 8 1 := ⟨RX8, TX8, 15, rfl, by decide, gmt2 75 rfl rfl⟩
set_option maxRecDepth 10000 in
theorem gf_RX8_95 : gFL RX8 95 0 2 := ⟨RX0, TX0, 8, rfl, by decide, gmt1 124 rfl rfl⟩
set_option maxRecDepth 10000 in
theorem gf_RX8_105 : gFL RX8 105 0 4 := ⟨RX0, TX0, 8, rfl, by decide, gmt1 130 rfl rfl⟩
set_option maxRecDepth 10000 in
theorem gf_RX8_114 : gFL RX8 114 0 3 := ⟨RX0, TX0, 8, rfl, by decide, gmt1 127 rfl rfl⟩
set_option maxRecDepth 10000 in
theorem gf_RX8_117 : gFL RX8 117 0 5 := ⟨RX0, TX0, 8, rfl, by decide, gmt1 133 rfl rfl⟩
set_option maxRecDepth 10000 in
theorem gf_RX8_124 : gFL RX8 124 0 6 := ⟨RX0, TX0, 8, rfl, by decide, gmt1 136 rfl rfl⟩
set_option maxRecDepth 10000 in
theorem gf_RX8_127 : gFL RX8 127 0 7 := ⟨RX0, TX0, 8, rfl, by decide, gmt1 138 rfl rfl⟩
set_option maxRecDepth 10000 in
theorem gf_RX8_130 : gFL RX8 130 7 0 := ⟨RX7, TX7, 2, rfl, by decide, gmt1 64 rfl rfl⟩
set_option maxRecDepth 10000 in
theorem gf_RX9_12 : gFL RX9 12 9 1 := ⟨RX9, TX9, 12, rfl, by decide, gmt2 13 rfl rfl⟩
set_option maxRecDepth 10000 in
theorem gf_RX9_18 : gFL RX9 18 9 2 := ⟨RX9, TX9, 12, rfl, by decide, gmt2 14 rfl rfl⟩
set_option maxRecDepth 10000 in
theorem gf_RX9_22 : gFL RX9 22 9 3 := ⟨RX9, TX9, 12, rfl, by decide, gmt2 15 rfl rfl⟩
set_option maxRecDepth 10000 in
theorem gf_RX9_26 : gFL RX9 26 9 4 := ⟨RX9, TX9, 12, rfl, by decide, gmt2 16 rfl rfl⟩
set_option maxRecDepth 10000 in
theorem gf_RX9_34 : gFL RX9 34 9 5 := ⟨RX9, TX9, 12, rfl, by decide, gmt2 17 rfl rfl⟩
set_option maxRecDepth 10000 in
theorem gf_RX9_38 : gFL RX9 38 9 0 := ⟨RX9, TX9, 12, rfl, by decide, gmt2 12 rfl rfl⟩
set_option maxRecDepth 10000 in
theorem gf_RX9_42 : gFL RX9 42 10 1 := ⟨RX10, TX10, 2, rfl, by decide, gmt1 38 rfl rfl⟩
set_option maxRecDepth 10000 in
theorem gf_RX9_60 : gFL RX9 60 9 6 := ⟨RX9, TX9, 12, rfl, by decide, gmt2 18 rfl rfl⟩
set_option maxRecDepth 10000 in
theorem gf_RX9_70 : gFL RX9 70 9 8 := ⟨RX9, TX9, 12, rfl, by decide, gmt2 20 rfl rfl⟩
set_option maxRecDepth 10000 in
theorem gf_RX9_71 : gFL RX9 71 9 7 := ⟨RX9, TX9, 12, rfl, by decide, gmt2 19 rfl rfl⟩
set_option maxRecDepth 10000 in
theorem gf_RX9_75 : gFL RX9 75 7 1 := ⟨RX7, TX7, 2, rfl, by decide, gmt1 70 rfl rfl⟩
set_option maxRecDepth 10000 in
theorem gf_RX9_112 : gFL RX9 112 9 9 := ⟨RX9, TX9, 12, rfl, by decide, gmt2 22 rfl rfl⟩
set_option maxRecDepth 10000 in
theorem gf_RX9_121 : gFL RX9 121 9 10 := ⟨RX9, TX9, 12, rfl, by decide, gmt2 24 rfl rfl⟩
set_option maxRecDepth 10000 in
theorem gf_RX9_124 : gFL RX9 124 9 11 := ⟨RX9, TX9, 12, rfl, by decide, gmt2 26 rfl rfl⟩
set_option maxRecDepth 10000 in
theorem gf_RX10_9 : gFL RX10 9 10 0 := ⟨RX10, TX10, 2, rfl, by decide, gmt1 36 rfl rfl⟩
set_option maxRecDepth 10000 in
theorem gf_RX10_15 : gFL RX10 15 10 1 := ⟨RX10, TX10, 2, rfl, by decide, gmt1 40 rfl rfl⟩
set_option maxRecDepth 10000 in
theorem gf_RX12_7 : gFL RX12 7 12 0 := ⟨RX12, TX12, 47, rfl, by decide, gmt6 7 rfl rfl⟩
set_option maxRecDepth 10000 in
theorem gf_RX12_13 : gFL RX12 13 12 8 := ⟨RX12, TX12, 47, rfl, by decide, gmt6 15 rfl rfl⟩
set_option maxRecDepth 10000 in
theorem gf_RX12_17 : gFL RX12 17 12 9 := ⟨RX12, TX12, 47, rfl, by decide, gmt6 16 rfl rfl⟩
set_option maxRecDepth 10000 in
theorem gf_RX12_20 : gFL RX12 20 12 11 := ⟨RX12, TX12, 47, rfl, by decide, gmt6 18 rfl rfl⟩
set_option maxRecDepth 10000 in
theorem gf_RX12_24 : gFL RX12 24 12 13 := ⟨RX12, TX12, 47, rfl, by decide, gmt6 20 rfl rfl⟩
set_option maxRecDepth 10000 in
theorem gf_RX12_27 : gFL RX12 27 12 14 := ⟨RX12, TX12, 47, rfl, by decide, gmt6 21 rfl rfl⟩
set_option maxRecDepth 10000 in
theorem gf_RX12_30 : gFL RX12 30 12 15 := ⟨RX12, TX12, 47, rfl, by decide, gmt6 22 rfl rfl⟩
set_option maxRecDepth 10000 in
theorem gf_RX12_33 : gFL RX12 33 12 16 := ⟨RX12, TX12, 47, rfl, by decide, gmt6 23 rfl rfl⟩
set_option maxRecDepth 10000 in
theorem gf_RX12_36 : gFL RX12 36 12 18 := ⟨RX12, TX12, 47, rfl, by decide, gmt6 25 rfl rfl⟩
set_option maxRecDepth 10000 in
theorem gf_RX12_39 : gFL RX12 39 12 19 := ⟨RX12, TX12, 47, rfl, by decide, gmt6 26 rfl rfl⟩
set_option maxRecDepth 10000 in
theorem gf_RX12_42 : gFL RX12 42 12 20 := ⟨RX12, TX12, 47, rfl, by decide, gmt6 27 rfl rfl⟩
set_option maxRecDepth 10000 in
theorem gf_RX12_45 : gFL RX12 45 12 21 := ⟨RX12, TX12, 47, rfl, by decide, gmt6 28 rfl rfl⟩
set_option maxRecDepth 10000 in
theorem gf_RX12_48 : gFL RX12 48 12 25 := ⟨RX12, TX12, 47, rfl, by decide, gmt6 32 rfl rfl⟩
set_option maxRecDepth 10000 in
theorem gf_RX12_51 : gFL RX12 51 12 28 := ⟨RX12, TX12, 47, rfl, by decide, gmt6 35 rfl rfl⟩
set_option maxRecDepth 10000 in
theorem gf_RX12_54 : gFL RX12 54 12 29 := ⟨RX12, TX12, 47, rfl, by decide, gmt6 36 rfl rfl⟩
set_option maxRecDepth 10000 in
theorem gf_RX12_58 : gFL RX12 58 12 30 := ⟨RX12, TX12, 47, rfl, by decide, gmt6 37 rfl rfl⟩
set_option maxRecDepth 10000 in
theorem gf_RX12_62 : gFL RX12 62 12 31 := ⟨RX12, TX12, 47, rfl, by decide, gmt6 38 rfl rfl⟩
set_option maxRecDepth 10000 in
theorem gf_RX12_65 : gFL RX12 65 12 32 := ⟨RX12, TX12, 47, rfl, by decide, gmt6 39 rfl rfl⟩
set_option maxRecDepth 10000 in
theorem gf_RX12_69 : gFL RX12 69 12 33 := ⟨RX12, TX12, 47, rfl, by decide, gmt6 40 rfl rfl⟩
set_option maxRecDepth 10000 in
theorem gf_RX12_72 : gFL RX12 72 12 35 := ⟨RX12, TX12, 47, rfl, by decide, gmt6 42 rfl rfl⟩
set_option maxRecDepth 10000 in
theorem gf_RX12_75 : gFL RX12 75 12 38 := ⟨RX12, TX12, 47, rfl, by decide, gmt6 45 rfl rfl⟩
set_option maxRecDepth 10000 in
theorem gf_RX12_78 : gFL RX12 78 12 39 := ⟨RX12, TX12, 47, rfl, by decide, gmt6 46 rfl rfl⟩
set_option maxRecDepth 10000 in
theorem gf_RX12_81 : gFL RX12 81 12 40 := ⟨RX12, TX12, 47, rfl, by decide, gmt6 47 rfl rfl⟩
set_option maxRecDepth 10000 in
theorem gf_RX12_84 : gFL RX12 84 12 41 := ⟨RX12, TX12, 47, rfl, by decide, gmt6 48 rfl rfl⟩
set_option maxRecDepth 10000 in
theorem gf_RX12_87 : gFL RX12 87 12 42 := ⟨RX12, TX12, 47, rfl, by decide, gmt6 49 rfl rfl⟩
set_option maxRecDepth 10000 in
theorem gf_RX12_90 : gFL RX12 90 12 43 := ⟨RX12, TX12, 47, rfl, by decide, gmt6 50 rfl rfl⟩
set_option maxRecDepth 10000 in
theorem gf_RX12_93 : gFL RX12 93 12 46 := ⟨RX12, TX12, 47, rfl, by decide, gmt6 53 rfl rfl⟩
set_option maxRecDepth 10000 in
theorem gf_RX12_97 : gFL RX12 97 12 1 := ⟨RX12, TX12, 47, rfl, by decide, gmt6 8 rfl rfl⟩
set_option maxRecDepth 10000 in
theorem gf_RX12_114 : gFL RX12 114 12 7 := ⟨RX12, TX12, 47, rfl, by decide, gmt6 14 rfl rfl⟩
set_option maxRecDepth 10000 in
theorem gf_RX12_117 : gFL RX12 117 12 5 := ⟨RX12, TX12, 47, rfl, by decide, gmt6 12 rfl rfl⟩
set_option maxRecDepth 10000 in
theorem gf_RX12_120 : gFL RX12 120 12 6 := ⟨RX12, TX12, 47, rfl, by decide, gmt6 13 rfl rfl⟩
set_option maxRecDepth 10000 in
theorem gf_RX12_123 : gFL RX12 123 12 2 := ⟨RX12, TX12, 47, rfl, by decide, gmt6 9 rfl rfl⟩
set_option maxRecDepth 10000 in
theorem gf_RX12_126 : gFL RX12 126 12 3 := ⟨RX12, TX12, 47, rfl, by decide, gmt6 10 rfl rfl⟩
set_option maxRecDepth 10000 in
theorem gf_RX12_136 : gFL RX12 136 12 4 := ⟨RX12, TX12, 47, rfl, by decide, gmt6 11 rfl rfl⟩
set_option maxRecDepth 10000 in
theorem gf_RX12_149 : gFL RX12 149 12 10 := ⟨RX12, TX12, 47, rfl, by decide, gmt6 17 rfl rfl⟩
set_option maxRecDepth 10000 in
theorem gf_RX12_169 : gFL RX12 169 12 12 := ⟨RX12, TX12, 47, rfl, by decide, gmt6 19 rfl rfl⟩
set_option maxRecDepth 10000 in
theorem gf_RX12_175 : gFL RX12 175 12 17 := ⟨RX12, TX12, 47, rfl, by decide, gmt6 24 rfl rfl⟩
set_option maxRecDepth 10000 in
theorem gf_RX12_253 : gFL RX12 253 12 22 := ⟨RX12, TX12, 47, rfl, by decide, gmt6 29 rfl rfl⟩
set_option maxRecDepth 10000 in
theorem gf_RX12_256 : gFL RX12 256 12 26 := ⟨RX12, TX12, 47, rfl, by decide, gmt6 33 rfl rfl⟩
set_option maxRecDepth 10000 in
theorem gf_RX12_274 : gFL RX12 274 12 27 := ⟨RX12, TX12, 47, rfl, by decide, gmt6 34 rfl rfl⟩
set_option maxRecDepth 10000 in
theorem gf_RX12_292 : gFL RX12 292 12 24 := ⟨RX12, TX12, 47, rfl, by decide, gmt6 31 rfl rfl⟩
set_option maxRecDepth 10000 in
theorem gf_RX12_298 : gFL RX12 298 12 23 := ⟨RX12, TX12, 47, rfl, by decide, gmt6 30 rfl rfl⟩
set_option maxRecDepth 10000 in
theorem gf_RX12_304 : gFL RX12 304 12 44 := ⟨RX12, TX12, 47, rfl, by decide, gmt6 51 rfl rfl⟩
set_option maxRecDepth 10000 in
theorem gf_RX12_307 : gFL RX12 307 12 36 := ⟨RX12, TX12, 47, rfl, by decide, gmt6 43 rfl rfl⟩
set_option maxRecDepth 10000 in
theorem gf_RX12_384 : gFL RX12 384 12 34 := ⟨RX12, TX12, 47, rfl, by decide, gmt6 41 rfl rfl⟩
set_option maxRecDepth 10000 in
theorem gf_RX12_455 : gFL RX12 455 12 37 := ⟨RX12, TX12, 47, rfl, by decide, gmt6 44 rfl rfl⟩
set_option maxRecDepth 10000 in
theorem gf_RX12_461 : gFL RX12 461 12 45 := ⟨RX12, TX12, 47, rfl, by decide, gmt6 52 rfl rfl⟩
abbrev mX0_init : gM := (yX0_init, cX0_init, 1, none)
abbrev mX0_firstOfYear : gM := (yX0_firstOfYear, cX0_firstOfYear, 1, (some FieldType.int))
abbrev mX0_yearOf : gM := (yX0_yearOf, cX0_yearOf, 2, (some FieldType.int))
abbrev mX0_daysAhead : gM := (yX0_daysAhead, cX0_daysAhead, 2, (some FieldType.int))
abbrev mX0_firstOfMonth : gM := (yX0_firstOfMonth, cX0_firstOfMonth, 2, (some FieldType.int))
abbrev mX0_monthLengthOf : gM := (yX0_monthLengthOf, cX0_monthLengthOf, 2, (some FieldType.int))
abbrev mX0_monthOf : gM := (yX0_monthOf, cX0_monthOf, 4, (some FieldType.int))
abbrev mX0_weekdayOf : gM := (yX0_weekdayOf, cX0_weekdayOf, 1, (some FieldType.int))
abbrev mX0_periodOf : gM := (yX0_periodOf, cX0_periodOf, 2, (some FieldType.int))
abbrev mX0_firstOfPeriod : gM := (yX0_firstOfPeriod, cX0_firstOfPeriod, 2, (some FieldType.int))
abbrev mX0_moveTo : gM := (yX0_moveTo, cX0_moveTo, 2, none)
abbrev mX0_forward : gM := (yX0_forward, cX0_forward, 1, none)
abbrev mX1_init : gM := (yX1_init, cX1_init, 2, none)
abbrev mX1_clear : gM := (yX1_clear, cX1_clear, 1, none)
abbrev mX1_isWhat : gM := (yX1_isWhat, cX1_isWhat, 2, (some FieldType.boolean))
abbrev mX1_ruleAt : gM := (yX1_ruleAt, cX1_ruleAt, 2, (some (FieldType.object "FeastRules$Rule")))
abbrev mX1_openRule : gM := (yX1_openRule, cX1_openRule, 1, (some (FieldType.object "FeastRules$Rule")))
abbrev mX1_closeRule : gM := (yX1_closeRule, cX1_closeRule, 2, none)
abbrev mX1_closeSet : gM := (yX1_closeSet, cX1_closeSet, 2, none)
abbrev mX1_find : gM := (yX1_find, cX1_find, 3, (some FieldType.int))
abbrev mX1_letterOf : gM := (yX1_letterOf, cX1_letterOf, 3, (some FieldType.int))
abbrev mX1_append : gM := (yX1_append, cX1_append, 3, none)
abbrev mX1_codeStart : gM := (yX1_codeStart, cX1_codeStart, 2, (some FieldType.int))
abbrev mX1_codeEnd : gM := (yX1_codeEnd, cX1_codeEnd, 2, (some FieldType.int))
abbrev mX1_opAt : gM := (yX1_opAt, cX1_opAt, 2, (some FieldType.int))
abbrev mX1_argumentAt : gM := (yX1_argumentAt, cX1_argumentAt, 2, (some FieldType.int))
abbrev mX2_init : gM := (yX2_init, cX2_init, 1, none)
abbrev mX2_clear : gM := (yX2_clear, cX2_clear, 1, none)
abbrev mX2_copy : gM := (yX2_copy, cX2_copy, 2, none)
abbrev mX2_holds : gM := (yX2_holds, cX2_holds, 2, (some FieldType.boolean))
abbrev mX2_put : gM := (yX2_put, cX2_put, 2, none)
abbrev mX2_take : gM := (yX2_take, cX2_take, 2, none)
abbrev mX2_unite : gM := (yX2_unite, cX2_unite, 3, none)
abbrev mX2_limit : gM := (yX2_limit, cX2_limit, 3, none)
abbrev mX2_without : gM := (yX2_without, cX2_without, 3, none)
abbrev mX2_shiftLater : gM := (yX2_shiftLater, cX2_shiftLater, 7, none)
abbrev mX2_shiftSooner : gM := (yX2_shiftSooner, cX2_shiftSooner, 7, none)
abbrev mX2_moveOff : gM := (yX2_moveOff, cX2_moveOff, 5, none)
abbrev mX2_firstFrom : gM := (yX2_firstFrom, cX2_firstFrom, 2, (some FieldType.int))
abbrev mX2_firstMissingFrom : gM := (yX2_firstMissingFrom, cX2_firstMissingFrom, 2, (some FieldType.int))
abbrev mX2_search : gM := (yX2_search, cX2_search, 13, (some FieldType.int))
abbrev mX2_lastUpTo : gM := (yX2_lastUpTo, cX2_lastUpTo, 6, (some FieldType.int))
abbrev mX2_between : gM := (yX2_between, cX2_between, 11, (some FieldType.int))
abbrev mX2_atPlace : gM := (yX2_atPlace, cX2_atPlace, 7, (some FieldType.int))
abbrev mX2_word : gM := (yX2_word, cX2_word, 2, (some FieldType.long))
abbrev mX3_init : gM := (yX3_init, cX3_init, 1, none)
abbrev mX3_calendarOf : gM := (yX3_calendarOf, cX3_calendarOf, 3, (some FieldType.int))
abbrev mX3_gather : gM := (yX3_gather, cX3_gather, 6, none)
abbrev mX3_keepPlaces : gM := (yX3_keepPlaces, cX3_keepPlaces, 4, none)
abbrev mX3_fill : gM := (yX3_fill, cX3_fill, 9, none)
abbrev mX4_init : gM := (yX4_init, cX4_init, 2, none)
abbrev mX4_clear : gM := (yX4_clear, cX4_clear, 1, none)
abbrev mX4_openMarks : gM := (yX4_openMarks, cX4_openMarks, 1, none)
abbrev mX4_openRule : gM := (yX4_openRule, cX4_openRule, 4, none)
abbrev mX4_latestKind : gM := (yX4_latestKind, cX4_latestKind, 1, (some FieldType.int))
abbrev mX4_latestRule : gM := (yX4_latestRule, cX4_latestRule, 1, (some FieldType.int))
abbrev mX4_latestBefore : gM := (yX4_latestBefore, cX4_latestBefore, 1, (some FieldType.int))
abbrev mX4_latestChanges : gM := (yX4_latestChanges, cX4_latestChanges, 1, (some (FieldType.object "FeastRules$Row")))
abbrev mX4_drop : gM := (yX4_drop, cX4_drop, 1, none)
abbrev mX5_init : gM := (yX5_init, cX5_init, 3, none)
abbrev mX5_open : gM := (yX5_open, cX5_open, 3, none)
abbrev mX5_ruleChanged : gM := (yX5_ruleChanged, cX5_ruleChanged, 3, none)
abbrev mX5_daysOf : gM := (yX5_daysOf, cX5_daysOf, 3, (some (FieldType.object "FeastRules$DaySet")))
abbrev mX5_marked : gM := (yX5_marked, cX5_marked, 4, (some FieldType.int))
abbrev mX5_turn : gM := (yX5_turn, cX5_turn, 6, (some FieldType.int))
abbrev mX5_turnBack : gM := (yX5_turnBack, cX5_turnBack, 5, none)
abbrev mX5_markOf : gM := (yX5_markOf, cX5_markOf, 3, (some FieldType.int))
abbrev mX5_mark : gM := (yX5_mark, cX5_mark, 4, none)
abbrev mX5_rowOf : gM := (yX5_rowOf, cX5_rowOf, 4, (some (FieldType.object "FeastRules$Row")))
abbrev mX5_putTogether : gM := (yX5_putTogether, cX5_putTogether, 4, none)
abbrev mX5_perform : gM := (yX5_perform, cX5_perform, 5, none)
abbrev mX5_lay : gM := (yX5_lay, cX5_lay, 2, none)
abbrev mX5_join : gM := (yX5_join, cX5_join, 4, none)
abbrev mX6_init : gM := (yX6_init, cX6_init, 1, none)
abbrev mX6_read : gM := (yX6_read, cX6_read, 4, none)
abbrev mX6_ruleText : gM := (yX6_ruleText, cX6_ruleText, 6, none)
abbrev mX6_partText : gM := (yX6_partText, cX6_partText, 3, none)
abbrev mX6_rowText : gM := (yX6_rowText, cX6_rowText, 6, none)
abbrev mX6_nextInRow : gM := (yX6_nextInRow, cX6_nextInRow, 1, (some FieldType.boolean))
abbrev mX6_member : gM := (yX6_member, cX6_member, 8, (some FieldType.int))
abbrev mX6_setText : gM := (yX6_setText, cX6_setText, 2, none)
abbrev mX6_sumText : gM := (yX6_sumText, cX6_sumText, 3, none)
abbrev mX6_bothText : gM := (yX6_bothText, cX6_bothText, 4, none)
abbrev mX6_oneText : gM := (yX6_oneText, cX6_oneText, 4, none)
abbrev mX6_firstText : gM := (yX6_firstText, cX6_firstText, 2, none)
abbrev mX6_daysText : gM := (yX6_daysText, cX6_daysText, 4, none)
abbrev mX6_dateText : gM := (yX6_dateText, cX6_dateText, 4, (some FieldType.int))
abbrev mX6_number : gM := (yX6_number, cX6_number, 5, (some FieldType.int))
abbrev mX6_newName : gM := (yX6_newName, cX6_newName, 3, (some FieldType.int))
abbrev mX6_knownName : gM := (yX6_knownName, cX6_knownName, 3, (some FieldType.int))
abbrev mX6_name : gM := (yX6_name, cX6_name, 3, (some FieldType.int))
abbrev mX6_isOwnWord : gM := (yX6_isOwnWord, cX6_isOwnWord, 1, (some FieldType.boolean))
abbrev mX6_isWord : gM := (yX6_isWord, cX6_isWord, 3, (some FieldType.boolean))
abbrev mX6_wordAmong : gM := (yX6_wordAmong, cX6_wordAmong, 6, (some FieldType.int))
abbrev mX6_isSign : gM := (yX6_isSign, cX6_isSign, 2, (some FieldType.boolean))
abbrev mX6_pass : gM := (yX6_pass, cX6_pass, 2, none)
abbrev mX6_refuse : gM := (yX6_refuse, cX6_refuse, 3, none)
abbrev mX6_advance : gM := (yX6_advance, cX6_advance, 3, none)
abbrev mX7_init : gM := (yX7_init, cX7_init, 2, none)
abbrev mX7_clear : gM := (yX7_clear, cX7_clear, 1, none)
abbrev mX7_valueAt : gM := (yX7_valueAt, cX7_valueAt, 2, (some FieldType.int))
abbrev mX7_indexOf : gM := (yX7_indexOf, cX7_indexOf, 3, (some FieldType.int))
abbrev mX7_append : gM := (yX7_append, cX7_append, 2, none)
abbrev mX7_remove : gM := (yX7_remove, cX7_remove, 3, none)
abbrev mX7_copy : gM := (yX7_copy, cX7_copy, 3, none)
abbrev mX8_init : gM := (yX8_init, cX8_init, 1, none)
abbrev mX8_clearParts : gM := (yX8_clearParts, cX8_clearParts, 1, none)
abbrev mX8_beginAt : gM := (yX8_beginAt, cX8_beginAt, 3, none)
abbrev mX8_tellMonths : gM := (yX8_tellMonths, cX8_tellMonths, 3, none)
abbrev mX8_tellDates : gM := (yX8_tellDates, cX8_tellDates, 4, none)
abbrev mX8_tellWeekdays : gM := (yX8_tellWeekdays, cX8_tellWeekdays, 3, none)
abbrev mX8_tell : gM := (yX8_tell, cX8_tell, 2, (some FieldType.int))
abbrev mX8_goesBy : gM := (yX8_goesBy, cX8_goesBy, 3, (some FieldType.boolean))
abbrev mX8_counts : gM := (yX8_counts, cX8_counts, 2, (some FieldType.boolean))
abbrev mX8_countsInMonth : gM := (yX8_countsInMonth, cX8_countsInMonth, 2, (some FieldType.boolean))
abbrev mX8_countsInYear : gM := (yX8_countsInYear, cX8_countsInYear, 2, (some FieldType.boolean))
abbrev mX8_dateTold : gM := (yX8_dateTold, cX8_dateTold, 2, (some FieldType.boolean))
abbrev mX8_weekdayTold : gM := (yX8_weekdayTold, cX8_weekdayTold, 2, (some FieldType.boolean))
abbrev mX8_placeTold : gM := (yX8_placeTold, cX8_placeTold, 8, (some FieldType.boolean))
abbrev mX9_init : gM := (yX9_init, cX9_init, 2, none)
abbrev mX9_isTold : gM := (yX9_isTold, cX9_isTold, 2, (some FieldType.boolean))
abbrev mX9_dayAt : gM := (yX9_dayAt, cX9_dayAt, 2, (some FieldType.int))
abbrev mX9_take : gM := (yX9_take, cX9_take, 4, none)
abbrev mX9_clear : gM := (yX9_clear, cX9_clear, 1, none)
abbrev mX9_forget : gM := (yX9_forget, cX9_forget, 1, none)
abbrev mX9_fitAt : gM := (yX9_fitAt, cX9_fitAt, 2, (some FieldType.int))
abbrev mX9_workOut : gM := (yX9_workOut, cX9_workOut, 5, none)
abbrev mX9_isSo : gM := (yX9_isSo, cX9_isSo, 2, (some FieldType.boolean))
abbrev mX9_countYear : gM := (yX9_countYear, cX9_countYear, 4, none)
abbrev mX9_choose : gM := (yX9_choose, cX9_choose, 5, none)
abbrev mX10_init : gM := (yX10_init, cX10_init, 1, none)
abbrev mX10_append : gM := (yX10_append, cX10_append, 3, none)
abbrev mX10_byteAt : gM := (yX10_byteAt, cX10_byteAt, 2, (some FieldType.int))
abbrev mX11_init : gM := (yX11_init, cX11_init, 1, none)
abbrev mX11_feed : gM := (yX11_feed, cX11_feed, 6, (some FieldType.int))
abbrev mX11_end : gM := (yX11_end, cX11_end, 2, (some FieldType.boolean))
abbrev mX11_book : gM := (yX11_book, cX11_book, 2, (some FieldType.int))
abbrev mX11_fault : gM := (yX11_fault, cX11_fault, 2, (some FieldType.int))
abbrev mX11_has : gM := (yX11_has, cX11_has, 2, (some FieldType.int))
abbrev mX11_letter : gM := (yX11_letter, cX11_letter, 3, (some FieldType.int))
abbrev mX11_rule : gM := (yX11_rule, cX11_rule, 4, (some FieldType.int))
abbrev mX11_day : gM := (yX11_day, cX11_day, 4, (some FieldType.int))
abbrev mX11_date : gM := (yX11_date, cX11_date, 3, (some FieldType.int))
abbrev mX11_on : gM := (yX11_on, cX11_on, 4, (some FieldType.int))
abbrev mX11_next : gM := (yX11_next, cX11_next, 4, (some FieldType.int))
abbrev mX11_ahead : gM := (yX11_ahead, cX11_ahead, 4, (some FieldType.int))
abbrev mX11_nth : gM := (yX11_nth, cX11_nth, 4, (some FieldType.int))
abbrev mX11_many : gM := (yX11_many, cX11_many, 5, (some FieldType.int))
abbrev mX11_gap : gM := (yX11_gap, cX11_gap, 9, (some FieldType.int))
abbrev mX11_free : gM := (yX11_free, cX11_free, 9, (some FieldType.int))
abbrev mX11_meet : gM := (yX11_meet, cX11_meet, 7, (some FieldType.int))
abbrev mX11_fares : gM := (yX11_fares, cX11_fares, 8, (some FieldType.int))
abbrev mX11_period : gM := (yX11_period, cX11_period, 6, (some FieldType.int))
abbrev mX11_sum : gM := (yX11_sum, cX11_sum, 7, (some FieldType.int))
abbrev mX11_see : gM := (yX11_see, cX11_see, 4, (some FieldType.int))
abbrev mX11_fits : gM := (yX11_fits, cX11_fits, 2, (some FieldType.int))
abbrev mX11_tells : gM := (yX11_tells, cX11_tells, 2, (some FieldType.int))
abbrev mX11_add : gM := (yX11_add, cX11_add, 3, (some FieldType.boolean))
abbrev mX11_leave : gM := (yX11_leave, cX11_leave, 3, (some FieldType.boolean))
abbrev mX11_every : gM := (yX11_every, cX11_every, 4, (some FieldType.boolean))
abbrev mX11_from : gM := (yX11_from, cX11_from, 4, (some FieldType.boolean))
abbrev mX11_chance : gM := (yX11_chance, cX11_chance, 9, (some FieldType.int))
abbrev mX11_undo : gM := (yX11_undo, cX11_undo, 1, (some FieldType.boolean))
abbrev mX11_seed : gM := (yX11_seed, cX11_seed, 2, (some FieldType.boolean))
abbrev mX11_status : gM := (yX11_status, cX11_status, 2, (some FieldType.int))
abbrev mX11_isDay : gM := (yX11_isDay, cX11_isDay, 1, (some FieldType.boolean))
abbrev mX11_refuse : gM := (yX11_refuse, cX11_refuse, 2, (some FieldType.int))
abbrev mX11_deny : gM := (yX11_deny, cX11_deny, 2, (some FieldType.boolean))
abbrev mX11_turn : gM := (yX11_turn, cX11_turn, 6, (some FieldType.boolean))
abbrev mX11_restoreRule : gM := (yX11_restoreRule, cX11_restoreRule, 2, none)
abbrev mX11_draw : gM := (yX11_draw, cX11_draw, 2, (some FieldType.int))
abbrev mX12_init : gM := (yX12_init, cX12_init, 1, none)
abbrev mX12_isIn : gM := (yX12_isIn, cX12_isIn, 6, (some FieldType.boolean))
abbrev mX12_flag : gM := (yX12_flag, cX12_flag, 1, (some FieldType.int))
abbrev mX12_isOf : gM := (yX12_isOf, cX12_isOf, 2, (some FieldType.boolean))
abbrev mX12_refuses : gM := (yX12_refuses, cX12_refuses, 2, (some FieldType.int))
abbrev mX12_isRefused : gM := (yX12_isRefused, cX12_isRefused, 2, (some FieldType.boolean))
abbrev mX12_feed : gM := (yX12_feed, cX12_feed, 8, (some FieldType.int))
abbrev mX12_end : gM := (yX12_end, cX12_end, 2, (some FieldType.boolean))
abbrev mX12_status : gM := (yX12_status, cX12_status, 2, (some FieldType.int))
abbrev mX12_fault : gM := (yX12_fault, cX12_fault, 2, (some FieldType.int))
abbrev mX12_fail : gM := (yX12_fail, cX12_fail, 3, none)
abbrev mX12_isLetter : gM := (yX12_isLetter, cX12_isLetter, 1, (some FieldType.boolean))
abbrev mX12_isDigit : gM := (yX12_isDigit, cX12_isDigit, 1, (some FieldType.boolean))
abbrev mX12_look : gM := (yX12_look, cX12_look, 1, (some FieldType.int))
abbrev mX12_isWordHere : gM := (yX12_isWordHere, cX12_isWordHere, 1, (some FieldType.boolean))
abbrev mX12_takesSign : gM := (yX12_takesSign, cX12_takesSign, 2, (some FieldType.boolean))
abbrev mX12_asksSign : gM := (yX12_asksSign, cX12_asksSign, 2, none)
abbrev mX12_number : gM := (yX12_number, cX12_number, 4, (some FieldType.int))
abbrev mX12_ownHere : gM := (yX12_ownHere, cX12_ownHere, 5, (some FieldType.int))
abbrev mX12_isLike : gM := (yX12_isLike, cX12_isLike, 4, (some FieldType.boolean))
abbrev mX12_passes : gM := (yX12_passes, cX12_passes, 1, none)
abbrev mX12_takes : gM := (yX12_takes, cX12_takes, 2, (some FieldType.boolean))
abbrev mX12_asks : gM := (yX12_asks, cX12_asks, 2, none)
abbrev mX12_name : gM := (yX12_name, cX12_name, 2, (some FieldType.int))
abbrev mX12_isLeap : gM := (yX12_isLeap, cX12_isLeap, 1, (some FieldType.boolean))
abbrev mX12_longMonth : gM := (yX12_longMonth, cX12_longMonth, 2, (some FieldType.int))
abbrev mX12_laysDays : gM := (yX12_laysDays, cX12_laysDays, 6, none)
abbrev mX12_weekdayOf : gM := (yX12_weekdayOf, cX12_weekdayOf, 1, (some FieldType.int))
abbrev mX12_dayOf : gM := (yX12_dayOf, cX12_dayOf, 5, (some FieldType.int))
abbrev mX12_ruleAt : gM := (yX12_ruleAt, cX12_ruleAt, 2, (some FieldType.int))
abbrev mX12_setAt : gM := (yX12_setAt, cX12_setAt, 2, (some FieldType.int))
abbrev mX12_named : gM := (yX12_named, cX12_named, 3, (some FieldType.int))
abbrev mX12_newName : gM := (yX12_newName, cX12_newName, 2, (some FieldType.int))
abbrev mX12_what : gM := (yX12_what, cX12_what, 3, (some FieldType.int))
abbrev mX12_date : gM := (yX12_date, cX12_date, 4, (some FieldType.int))
abbrev mX12_place : gM := (yX12_place, cX12_place, 4, (some FieldType.int))
abbrev mX12_room : gM := (yX12_room, cX12_room, 2, none)
abbrev mX12_inTold : gM := (yX12_inTold, cX12_inTold, 5, none)
abbrev mX12_placesTold : gM := (yX12_placesTold, cX12_placesTold, 10, none)
abbrev mX12_weekday : gM := (yX12_weekday, cX12_weekday, 2, (some FieldType.int))
abbrev mX12_byTold : gM := (yX12_byTold, cX12_byTold, 10, none)
abbrev mX12_partTold : gM := (yX12_partTold, cX12_partTold, 3, none)
abbrev mX12_ruleTold : gM := (yX12_ruleTold, cX12_ruleTold, 6, none)
abbrev mX12_codes : gM := (yX12_codes, cX12_codes, 3, none)
abbrev mX12_opens : gM := (yX12_opens, cX12_opens, 2, none)
abbrev mX12_joins : gM := (yX12_joins, cX12_joins, 2, none)
abbrev mX12_daysTold : gM := (yX12_daysTold, cX12_daysTold, 6, none)
abbrev mX12_movesTold : gM := (yX12_movesTold, cX12_movesTold, 2, none)
abbrev mX12_goesOn : gM := (yX12_goesOn, cX12_goesOn, 1, (some FieldType.boolean))
abbrev mX12_sumTold : gM := (yX12_sumTold, cX12_sumTold, 2, none)
abbrev mX12_setTold : gM := (yX12_setTold, cX12_setTold, 4, none)
abbrev mX12_statementTold : gM := (yX12_statementTold, cX12_statementTold, 2, none)
abbrev mX12_book : gM := (yX12_book, cX12_book, 2, (some FieldType.int))
abbrev mX12_handAt : gM := (yX12_handAt, cX12_handAt, 2, (some FieldType.int))
abbrev mX12_begins : gM := (yX12_begins, cX12_begins, 2, none)
abbrev mX12_allAnew : gM := (yX12_allAnew, cX12_allAnew, 2, none)
abbrev mX12_isRule : gM := (yX12_isRule, cX12_isRule, 2, (some FieldType.boolean))
abbrev mX12_isSet : gM := (yX12_isSet, cX12_isSet, 2, (some FieldType.boolean))
abbrev mX12_isWhat : gM := (yX12_isWhat, cX12_isWhat, 2, (some FieldType.boolean))
abbrev mX12_isDay : gM := (yX12_isDay, cX12_isDay, 1, (some FieldType.boolean))
abbrev mX12_ruleHas : gM := (yX12_ruleHas, cX12_ruleHas, 3, (some FieldType.int))
abbrev mX12_fromOf : gM := (yX12_fromOf, cX12_fromOf, 2, (some FieldType.int))
abbrev mX12_periodOf : gM := (yX12_periodOf, cX12_periodOf, 3, (some FieldType.int))
abbrev mX12_longMonthOf : gM := (yX12_longMonthOf, cX12_longMonthOf, 2, (some FieldType.int))
abbrev mX12_isDated : gM := (yX12_isDated, cX12_isDated, 5, (some FieldType.boolean))
abbrev mX12_isWeekday : gM := (yX12_isWeekday, cX12_isWeekday, 4, (some FieldType.boolean))
abbrev mX12_isPlaced : gM := (yX12_isPlaced, cX12_isPlaced, 9, (some FieldType.boolean))
abbrev mX12_hasIn : gM := (yX12_hasIn, cX12_hasIn, 2, (some FieldType.boolean))
abbrev mX12_hasOn : gM := (yX12_hasOn, cX12_hasOn, 2, (some FieldType.boolean))
abbrev mX12_hasBy : gM := (yX12_hasBy, cX12_hasBy, 2, (some FieldType.boolean))
abbrev mX12_isInMonths : gM := (yX12_isInMonths, cX12_isInMonths, 3, (some FieldType.boolean))
abbrev mX12_isDateOfBegin : gM := (yX12_isDateOfBegin, cX12_isDateOfBegin, 3, (some FieldType.boolean))
abbrev mX12_isOfMonth : gM := (yX12_isOfMonth, cX12_isOfMonth, 3, (some FieldType.boolean))
abbrev mX12_isOfYear : gM := (yX12_isOfYear, cX12_isOfYear, 3, (some FieldType.boolean))
abbrev mX12_isOfPeriod : gM := (yX12_isOfPeriod, cX12_isOfPeriod, 3, (some FieldType.boolean))
abbrev mX12_isAt : gM := (yX12_isAt, cX12_isAt, 5, (some FieldType.boolean))
abbrev mX12_laysPeriod : gM := (yX12_laysPeriod, cX12_laysPeriod, 7, (some FieldType.int))
abbrev mX12_laysBase : gM := (yX12_laysBase, cX12_laysBase, 3, none)
abbrev mX12_isGone : gM := (yX12_isGone, cX12_isGone, 4, (some FieldType.boolean))
abbrev mX12_laysDaysBy : gM := (yX12_laysDaysBy, cX12_laysDaysBy, 9, none)
abbrev mX12_puts : gM := (yX12_puts, cX12_puts, 3, none)
abbrev mX12_putsDay : gM := (yX12_putsDay, cX12_putsDay, 3, none)
abbrev mX12_joinsTop : gM := (yX12_joinsTop, cX12_joinsTop, 7, none)
abbrev mX12_movesTop : gM := (yX12_movesTop, cX12_movesTop, 4, none)
abbrev mX12_goesOff : gM := (yX12_goesOff, cX12_goesOff, 6, none)
abbrev mX12_does : gM := (yX12_does, cX12_does, 3, none)
abbrev mX12_laysSet : gM := (yX12_laysSet, cX12_laysSet, 4, none)
abbrev mX12_lays : gM := (yX12_lays, cX12_lays, 3, none)
abbrev mX12_lays0 : gM := (yX12_lays0, cX12_lays0, 2, none)
abbrev mX12_isOn : gM := (yX12_isOn, cX12_isOn, 3, (some FieldType.boolean))
abbrev mX12_handMany : gM := (yX12_handMany, cX12_handMany, 4, (some FieldType.int))
abbrev mX12_has : gM := (yX12_has, cX12_has, 2, (some FieldType.int))
abbrev mX12_letter : gM := (yX12_letter, cX12_letter, 6, (some FieldType.int))
abbrev mX12_rule : gM := (yX12_rule, cX12_rule, 3, (some FieldType.int))
abbrev mX12_day : gM := (yX12_day, cX12_day, 4, (some FieldType.int))
abbrev mX12_date_ : gM := (yX12_date_, cX12_date_, 3, (some FieldType.int))
abbrev mX12_isAsked : gM := (yX12_isAsked, cX12_isAsked, 2, (some FieldType.boolean))
abbrev mX12_on : gM := (yX12_on, cX12_on, 3, (some FieldType.int))
abbrev mX12_next : gM := (yX12_next, cX12_next, 4, (some FieldType.int))
abbrev mX12_ahead : gM := (yX12_ahead, cX12_ahead, 4, (some FieldType.int))
abbrev mX12_count : gM := (yX12_count, cX12_count, 6, (some FieldType.int))
abbrev mX12_nth : gM := (yX12_nth, cX12_nth, 6, (some FieldType.int))
abbrev mX12_many : gM := (yX12_many, cX12_many, 4, (some FieldType.int))
abbrev mX12_gap : gM := (yX12_gap, cX12_gap, 7, (some FieldType.int))
abbrev mX12_free : gM := (yX12_free, cX12_free, 6, (some FieldType.int))
abbrev mX12_meet : gM := (yX12_meet, cX12_meet, 6, (some FieldType.int))
abbrev mX12_fares : gM := (yX12_fares, cX12_fares, 5, (some FieldType.int))
abbrev mX12_period : gM := (yX12_period, cX12_period, 6, (some FieldType.int))
abbrev mX12_sum : gM := (yX12_sum, cX12_sum, 6, (some FieldType.int))
abbrev mX12_see : gM := (yX12_see, cX12_see, 5, (some FieldType.int))
abbrev mX12_laysFits : gM := (yX12_laysFits, cX12_laysFits, 5, (some FieldType.int))
abbrev mX12_fits : gM := (yX12_fits, cX12_fits, 5, (some FieldType.int))
abbrev mX12_tells : gM := (yX12_tells, cX12_tells, 8, (some FieldType.int))
abbrev mX12_keeps : gM := (yX12_keeps, cX12_keeps, 2, none)
abbrev mX12_undo : gM := (yX12_undo, cX12_undo, 2, (some FieldType.boolean))
abbrev mX12_handOf : gM := (yX12_handOf, cX12_handOf, 6, (some FieldType.int))
abbrev mX12_canHand : gM := (yX12_canHand, cX12_canHand, 4, (some FieldType.boolean))
abbrev mX12_hands : gM := (yX12_hands, cX12_hands, 7, none)
abbrev mX12_add : gM := (yX12_add, cX12_add, 3, (some FieldType.boolean))
abbrev mX12_leave : gM := (yX12_leave, cX12_leave, 3, (some FieldType.boolean))
abbrev mX12_every : gM := (yX12_every, cX12_every, 3, (some FieldType.boolean))
abbrev mX12_from : gM := (yX12_from, cX12_from, 3, (some FieldType.boolean))
abbrev mX12_seed : gM := (yX12_seed, cX12_seed, 2, (some FieldType.boolean))
abbrev mX12_drawOf : gM := (yX12_drawOf, cX12_drawOf, 2, (some FieldType.int))
abbrev mX12_chance : gM := (yX12_chance, cX12_chance, 7, (some FieldType.int))
abbrev mJ13_bitCount_95d88 : gM := (yJ13_bitCount_95d88, cJ13_bitCount_95d88, 2, (some FieldType.int))
abbrev mJ9_max_7cf53 : gM := (yJ9_max_7cf53, cJ9_max_7cf53, 2, (some FieldType.int))
abbrev mJ9_min_7cf53 : gM := (yJ9_min_7cf53, cJ9_min_7cf53, 2, (some FieldType.int))
abbrev mJ0_length_8abf5 : gM := (yJ0_length_8abf5, cJ0_length_8abf5, 1, (some FieldType.int))
abbrev mJ0_charAt_5068e : gM := (yJ0_charAt_5068e, cJ0_charAt_5068e, 2, (some FieldType.char))
abbrev mJ0_coder_7d493 : gM := (yJ0_coder_7d493, cJ0_coder_7d493, 1, (some FieldType.byte))
abbrev mJ0_isLatin1_aae02 : gM := (yJ0_isLatin1_aae02, cJ0_isLatin1_aae02, 1, (some FieldType.boolean))
abbrev mJ0_checkIndex_df160 : gM := (yJ0_checkIndex_df160, cJ0_checkIndex_df160, 2, none)
abbrev mJ1_charAt_3b067 : gM := (yJ1_charAt_3b067, cJ1_charAt_3b067, 2, (some FieldType.char))
abbrev mJ2_getChar_3b067 : gM := (yJ2_getChar_3b067, cJ2_getChar_3b067, 2, (some FieldType.char))
abbrev mJ2_length_9d52b : gM := (yJ2_length_9d52b, cJ2_length_9d52b, 1, (some FieldType.int))
abbrev mJ2_charAt_3b067 : gM := (yJ2_charAt_3b067, cJ2_charAt_3b067, 2, (some FieldType.char))
abbrev mJ2_checkIndex_2214a : gM := (yJ2_checkIndex_2214a, cJ2_checkIndex_2214a, 2, none)
abbrev mJ7_fill_d0a16 : gM := (yJ7_fill_d0a16, cJ7_fill_d0a16, 5, none)
abbrev mJ7_fill_53178 : gM := (yJ7_fill_53178, cJ7_fill_53178, 4, none)
abbrev mJ3_checkIndex_8e157 : gM := (yJ3_checkIndex_8e157, cJ3_checkIndex_8e157, 3, (some FieldType.int))
set_option maxRecDepth 10000 in
theorem gmf_X0_init : gMF mX0_init 0 := ⟨gmt1 118 rfl rfl, gmt1 7 rfl rfl, by decide +kernel, by decide⟩
set_option maxRecDepth 10000 in
theorem gmf_X0_firstOfYear : gMF mX0_firstOfYear 1 := ⟨gmt2 187 rfl rfl, gmt1 7 rfl rfl, by decide +kernel, by decide⟩
set_option maxRecDepth 10000 in
theorem gmf_X0_yearOf : gMF mX0_yearOf 1 := ⟨gmt2 181 rfl rfl, gmt1 7 rfl rfl, by decide +kernel, by decide⟩
set_option maxRecDepth 10000 in
theorem gmf_X0_daysAhead : gMF mX0_daysAhead 2 := ⟨gmt2 190 rfl rfl, gmt1 7 rfl rfl, by decide +kernel, by decide⟩
set_option maxRecDepth 10000 in
theorem gmf_X0_firstOfMonth : gMF mX0_firstOfMonth 2 := ⟨gmt2 206 rfl rfl, gmt1 7 rfl rfl, by decide +kernel, by decide⟩
set_option maxRecDepth 10000 in
theorem gmf_X0_monthLengthOf : gMF mX0_monthLengthOf 2 := ⟨gmt3 213 rfl rfl, gmt1 7 rfl rfl, by decide +kernel, by decide⟩
set_option maxRecDepth 10000 in
theorem gmf_X0_monthOf : gMF mX0_monthOf 1 := ⟨gmt2 184 rfl rfl, gmt1 7 rfl rfl, by decide +kernel, by decide⟩
set_option maxRecDepth 10000 in
theorem gmf_X0_weekdayOf : gMF mX0_weekdayOf 1 := ⟨gmt2 223 rfl rfl, gmt1 7 rfl rfl, by decide +kernel, by decide⟩
set_option maxRecDepth 10000 in
theorem gmf_X0_periodOf : gMF mX0_periodOf 2 := ⟨gmt2 178 rfl rfl, gmt1 7 rfl rfl, by decide +kernel, by decide⟩
set_option maxRecDepth 10000 in
theorem gmf_X0_firstOfPeriod : gMF mX0_firstOfPeriod 2 := ⟨gmt2 202 rfl rfl, gmt1 7 rfl rfl, by decide +kernel, by decide⟩
set_option maxRecDepth 10000 in
theorem gmf_X0_moveTo : gMF mX0_moveTo 1 := ⟨gmt2 217 rfl rfl, gmt1 7 rfl rfl, by decide +kernel, by decide⟩
set_option maxRecDepth 10000 in
theorem gmf_X0_forward : gMF mX0_forward 0 := ⟨gmt3 11 rfl rfl, gmt1 7 rfl rfl, by decide +kernel, by decide⟩
set_option maxRecDepth 10000 in
theorem gmf_X1_init : gMF mX1_init 0 := ⟨gmt2 58 rfl rfl, gmt1 12 rfl rfl, by decide +kernel, by decide⟩
set_option maxRecDepth 10000 in
theorem gmf_X1_clear : gMF mX1_clear 0 := ⟨gmt3 89 rfl rfl, gmt1 12 rfl rfl, by decide +kernel, by decide⟩
set_option maxRecDepth 10000 in
theorem gmf_X1_isWhat : gMF mX1_isWhat 1 := ⟨gmt3 182 rfl rfl, gmt1 12 rfl rfl, by decide +kernel, by decide⟩
set_option maxRecDepth 10000 in
theorem gmf_X1_ruleAt : gMF mX1_ruleAt 1 := ⟨gmt2 171 rfl rfl, gmt1 12 rfl rfl, by decide +kernel, by decide⟩
set_option maxRecDepth 10000 in
theorem gmf_X1_openRule : gMF mX1_openRule 0 := ⟨gmt3 186 rfl rfl, gmt1 12 rfl rfl, by decide +kernel, by decide⟩
set_option maxRecDepth 10000 in
theorem gmf_X1_closeRule : gMF mX1_closeRule 1 := ⟨gmt4 32 rfl rfl, gmt1 12 rfl rfl, by decide +kernel, by decide⟩
set_option maxRecDepth 10000 in
theorem gmf_X1_closeSet : gMF mX1_closeSet 1 := ⟨gmt4 77 rfl rfl, gmt1 12 rfl rfl, by decide +kernel, by decide⟩
set_option maxRecDepth 10000 in
theorem gmf_X1_find : gMF mX1_find 1 := ⟨gmt3 178 rfl rfl, gmt1 12 rfl rfl, by decide +kernel, by decide⟩
set_option maxRecDepth 10000 in
theorem gmf_X1_letterOf : gMF mX1_letterOf 2 := ⟨gmt4 112 rfl rfl, gmt1 12 rfl rfl, by decide +kernel, by decide⟩
set_option maxRecDepth 10000 in
theorem gmf_X1_append : gMF mX1_append 2 := ⟨gmt4 63 rfl rfl, gmt1 12 rfl rfl, by decide +kernel, by decide⟩
set_option maxRecDepth 10000 in
theorem gmf_X1_codeStart : gMF mX1_codeStart 1 := ⟨gmt4 153 rfl rfl, gmt1 12 rfl rfl, by decide +kernel, by decide⟩
set_option maxRecDepth 10000 in
theorem gmf_X1_codeEnd : gMF mX1_codeEnd 1 := ⟨gmt4 157 rfl rfl, gmt1 12 rfl rfl, by decide +kernel, by decide⟩
set_option maxRecDepth 10000 in
theorem gmf_X1_opAt : gMF mX1_opAt 1 := ⟨gmt4 161 rfl rfl, gmt1 12 rfl rfl, by decide +kernel, by decide⟩
set_option maxRecDepth 10000 in
theorem gmf_X1_argumentAt : gMF mX1_argumentAt 1 := ⟨gmt4 165 rfl rfl, gmt1 12 rfl rfl, by decide +kernel, by decide⟩
set_option maxRecDepth 10000 in
theorem gmf_X2_init : gMF mX2_init 0 := ⟨gmt1 181 rfl rfl, gmt1 9 rfl rfl, by decide +kernel, by decide⟩
set_option maxRecDepth 10000 in
theorem gmf_X2_clear : gMF mX2_clear 0 := ⟨gmt2 196 rfl rfl, gmt1 9 rfl rfl, by decide +kernel, by decide⟩
set_option maxRecDepth 10000 in
theorem gmf_X2_copy : gMF mX2_copy 1 := ⟨gmt4 178 rfl rfl, gmt1 9 rfl rfl, by decide +kernel, by decide⟩
set_option maxRecDepth 10000 in
theorem gmf_X2_holds : gMF mX2_holds 1 := ⟨gmt4 237 rfl rfl, gmt1 9 rfl rfl, by decide +kernel, by decide⟩
set_option maxRecDepth 10000 in
theorem gmf_X2_put : gMF mX2_put 1 := ⟨gmt3 24 rfl rfl, gmt1 9 rfl rfl, by decide +kernel, by decide⟩
set_option maxRecDepth 10000 in
theorem gmf_X2_take : gMF mX2_take 1 := ⟨gmt4 233 rfl rfl, gmt1 9 rfl rfl, by decide +kernel, by decide⟩
set_option maxRecDepth 10000 in
theorem gmf_X2_unite : gMF mX2_unite 1 := ⟨gmt4 223 rfl rfl, gmt1 9 rfl rfl, by decide +kernel, by decide⟩
set_option maxRecDepth 10000 in
theorem gmf_X2_limit : gMF mX2_limit 1 := ⟨gmt4 227 rfl rfl, gmt1 9 rfl rfl, by decide +kernel, by decide⟩
set_option maxRecDepth 10000 in
theorem gmf_X2_without : gMF mX2_without 1 := ⟨gmt4 215 rfl rfl, gmt1 9 rfl rfl, by decide +kernel, by decide⟩
set_option maxRecDepth 10000 in
theorem gmf_X2_shiftLater : gMF mX2_shiftLater 1 := ⟨gmt4 186 rfl rfl, gmt1 9 rfl rfl, by decide +kernel, by decide⟩
set_option maxRecDepth 10000 in
theorem gmf_X2_shiftSooner : gMF mX2_shiftSooner 1 := ⟨gmt4 195 rfl rfl, gmt1 9 rfl rfl, by decide +kernel, by decide⟩
set_option maxRecDepth 10000 in
theorem gmf_X2_moveOff : gMF mX2_moveOff 1 := ⟨gmt4 199 rfl rfl, gmt1 9 rfl rfl, by decide +kernel, by decide⟩
set_option maxRecDepth 10000 in
theorem gmf_X2_firstFrom : gMF mX2_firstFrom 1 := ⟨gmt5 5 rfl rfl, gmt1 9 rfl rfl, by decide +kernel, by decide⟩
set_option maxRecDepth 10000 in
theorem gmf_X2_firstMissingFrom : gMF mX2_firstMissingFrom 1 := ⟨gmt5 41 rfl rfl, gmt1 9 rfl rfl, by decide +kernel, by decide⟩
set_option maxRecDepth 10000 in
theorem gmf_X2_search : gMF mX2_search 3 := ⟨gmt4 203 rfl rfl, gmt1 9 rfl rfl, by decide +kernel, by decide⟩
set_option maxRecDepth 10000 in
theorem gmf_X2_lastUpTo : gMF mX2_lastUpTo 1 := ⟨gmt5 13 rfl rfl, gmt1 9 rfl rfl, by decide +kernel, by decide⟩
set_option maxRecDepth 10000 in
theorem gmf_X2_between : gMF mX2_between 2 := ⟨gmt5 21 rfl rfl, gmt1 9 rfl rfl, by decide +kernel, by decide⟩
set_option maxRecDepth 10000 in
theorem gmf_X2_atPlace : gMF mX2_atPlace 1 := ⟨gmt5 25 rfl rfl, gmt1 9 rfl rfl, by decide +kernel, by decide⟩
set_option maxRecDepth 10000 in
theorem gmf_X2_word : gMF mX2_word 1 := ⟨gmt4 190 rfl rfl, gmt1 9 rfl rfl, by decide +kernel, by decide⟩
set_option maxRecDepth 10000 in
theorem gmf_X3_init : gMF mX3_init 0 := ⟨gmt1 112 rfl rfl, gmt1 6 rfl rfl, by decide +kernel, by decide⟩
set_option maxRecDepth 10000 in
theorem gmf_X3_calendarOf : gMF mX3_calendarOf 2 := ⟨gmt4 136 rfl rfl, gmt1 6 rfl rfl, by decide +kernel, by decide⟩
set_option maxRecDepth 10000 in
theorem gmf_X3_gather : gMF mX3_gather 2 := ⟨gmt2 210 rfl rfl, gmt1 6 rfl rfl, by decide +kernel, by decide⟩
set_option maxRecDepth 10000 in
theorem gmf_X3_keepPlaces : gMF mX3_keepPlaces 1 := ⟨gmt3 16 rfl rfl, gmt1 6 rfl rfl, by decide +kernel, by decide⟩
set_option maxRecDepth 10000 in
theorem gmf_X3_fill : gMF mX3_fill 3 := ⟨gmt2 175 rfl rfl, gmt1 6 rfl rfl, by decide +kernel, by decide⟩
set_option maxRecDepth 10000 in
theorem gmf_X4_init : gMF mX4_init 0 := ⟨gmt1 218 rfl rfl, gmt1 10 rfl rfl, by decide +kernel, by decide⟩
set_option maxRecDepth 10000 in
theorem gmf_X4_clear : gMF mX4_clear 0 := ⟨gmt4 81 rfl rfl, gmt1 10 rfl rfl, by decide +kernel, by decide⟩
set_option maxRecDepth 10000 in
theorem gmf_X4_openMarks : gMF mX4_openMarks 0 := ⟨gmt5 160 rfl rfl, gmt1 10 rfl rfl, by decide +kernel, by decide⟩
set_option maxRecDepth 10000 in
theorem gmf_X4_openRule : gMF mX4_openRule 3 := ⟨gmt5 164 rfl rfl, gmt1 10 rfl rfl, by decide +kernel, by decide⟩
set_option maxRecDepth 10000 in
theorem gmf_X4_latestKind : gMF mX4_latestKind 0 := ⟨gmt5 209 rfl rfl, gmt1 10 rfl rfl, by decide +kernel, by decide⟩
set_option maxRecDepth 10000 in
theorem gmf_X4_latestRule : gMF mX4_latestRule 0 := ⟨gmt5 221 rfl rfl, gmt1 10 rfl rfl, by decide +kernel, by decide⟩
set_option maxRecDepth 10000 in
theorem gmf_X4_latestBefore : gMF mX4_latestBefore 0 := ⟨gmt5 225 rfl rfl, gmt1 10 rfl rfl, by decide +kernel, by decide⟩
set_option maxRecDepth 10000 in
theorem gmf_X4_latestChanges : gMF mX4_latestChanges 0 := ⟨gmt5 170 rfl rfl, gmt1 10 rfl rfl, by decide +kernel, by decide⟩
set_option maxRecDepth 10000 in
theorem gmf_X4_drop : gMF mX4_drop 0 := ⟨gmt5 229 rfl rfl, gmt1 10 rfl rfl, by decide +kernel, by decide⟩
set_option maxRecDepth 10000 in
theorem gmf_X5_init : gMF mX5_init 1 := ⟨gmt1 172 rfl rfl, gmt1 8 rfl rfl, by decide +kernel, by decide⟩
set_option maxRecDepth 10000 in
theorem gmf_X5_open : gMF mX5_open 1 := ⟨gmt2 159 rfl rfl, gmt1 8 rfl rfl, by decide +kernel, by decide⟩
set_option maxRecDepth 10000 in
theorem gmf_X5_ruleChanged : gMF mX5_ruleChanged 1 := ⟨gmt2 167 rfl rfl, gmt1 8 rfl rfl, by decide +kernel, by decide⟩
set_option maxRecDepth 10000 in
theorem gmf_X5_daysOf : gMF mX5_daysOf 1 := ⟨gmt4 144 rfl rfl, gmt1 8 rfl rfl, by decide +kernel, by decide⟩
set_option maxRecDepth 10000 in
theorem gmf_X5_marked : gMF mX5_marked 1 := ⟨gmt4 97 rfl rfl, gmt1 8 rfl rfl, by decide +kernel, by decide⟩
set_option maxRecDepth 10000 in
theorem gmf_X5_turn : gMF mX5_turn 3 := ⟨gmt5 140 rfl rfl, gmt1 8 rfl rfl, by decide +kernel, by decide⟩
set_option maxRecDepth 10000 in
theorem gmf_X5_turnBack : gMF mX5_turnBack 1 := ⟨gmt5 213 rfl rfl, gmt1 8 rfl rfl, by decide +kernel, by decide⟩
set_option maxRecDepth 10000 in
theorem gmf_X5_markOf : gMF mX5_markOf 2 := ⟨gmt5 145 rfl rfl, gmt1 8 rfl rfl, by decide +kernel, by decide⟩
set_option maxRecDepth 10000 in
theorem gmf_X5_mark : gMF mX5_mark 3 := ⟨gmt5 150 rfl rfl, gmt1 8 rfl rfl, by decide +kernel, by decide⟩
set_option maxRecDepth 10000 in
theorem gmf_X5_rowOf : gMF mX5_rowOf 2 := ⟨gmt4 101 rfl rfl, gmt1 8 rfl rfl, by decide +kernel, by decide⟩
set_option maxRecDepth 10000 in
theorem gmf_X5_putTogether : gMF mX5_putTogether 1 := ⟨gmt4 149 rfl rfl, gmt1 8 rfl rfl, by decide +kernel, by decide⟩
set_option maxRecDepth 10000 in
theorem gmf_X5_perform : gMF mX5_perform 2 := ⟨gmt4 169 rfl rfl, gmt1 8 rfl rfl, by decide +kernel, by decide⟩
set_option maxRecDepth 10000 in
theorem gmf_X5_lay : gMF mX5_lay 1 := ⟨gmt4 173 rfl rfl, gmt1 8 rfl rfl, by decide +kernel, by decide⟩
set_option maxRecDepth 10000 in
theorem gmf_X5_join : gMF mX5_join 2 := ⟨gmt4 219 rfl rfl, gmt1 8 rfl rfl, by decide +kernel, by decide⟩
set_option maxRecDepth 10000 in
theorem gmf_X6_init : gMF mX6_init 0 := ⟨gmt1 52 rfl rfl, gmt1 3 rfl rfl, by decide +kernel, by decide⟩
set_option maxRecDepth 10000 in
theorem gmf_X6_read : gMF mX6_read 2 := ⟨gmt3 84 rfl rfl, gmt1 3 rfl rfl, by decide +kernel, by decide⟩
set_option maxRecDepth 10000 in
theorem gmf_X6_ruleText : gMF mX6_ruleText 0 := ⟨gmt3 150 rfl rfl, gmt1 3 rfl rfl, by decide +kernel, by decide⟩
set_option maxRecDepth 10000 in
theorem gmf_X6_partText : gMF mX6_partText 2 := ⟨gmt3 226 rfl rfl, gmt1 3 rfl rfl, by decide +kernel, by decide⟩
set_option maxRecDepth 10000 in
theorem gmf_X6_rowText : gMF mX6_rowText 2 := ⟨gmt3 230 rfl rfl, gmt1 3 rfl rfl, by decide +kernel, by decide⟩
set_option maxRecDepth 10000 in
theorem gmf_X6_nextInRow : gMF mX6_nextInRow 0 := ⟨gmt4 5 rfl rfl, gmt1 3 rfl rfl, by decide +kernel, by decide⟩
set_option maxRecDepth 10000 in
theorem gmf_X6_member : gMF mX6_member 2 := ⟨gmt3 235 rfl rfl, gmt1 3 rfl rfl, by decide +kernel, by decide⟩
set_option maxRecDepth 10000 in
theorem gmf_X6_setText : gMF mX6_setText 0 := ⟨gmt4 37 rfl rfl, gmt1 3 rfl rfl, by decide +kernel, by decide⟩
set_option maxRecDepth 10000 in
theorem gmf_X6_sumText : gMF mX6_sumText 1 := ⟨gmt4 42 rfl rfl, gmt1 3 rfl rfl, by decide +kernel, by decide⟩
set_option maxRecDepth 10000 in
theorem gmf_X6_bothText : gMF mX6_bothText 1 := ⟨gmt4 46 rfl rfl, gmt1 3 rfl rfl, by decide +kernel, by decide⟩
set_option maxRecDepth 10000 in
theorem gmf_X6_oneText : gMF mX6_oneText 1 := ⟨gmt4 50 rfl rfl, gmt1 3 rfl rfl, by decide +kernel, by decide⟩
set_option maxRecDepth 10000 in
theorem gmf_X6_firstText : gMF mX6_firstText 1 := ⟨gmt4 54 rfl rfl, gmt1 3 rfl rfl, by decide +kernel, by decide⟩
set_option maxRecDepth 10000 in
theorem gmf_X6_daysText : gMF mX6_daysText 0 := ⟨gmt4 59 rfl rfl, gmt1 3 rfl rfl, by decide +kernel, by decide⟩
set_option maxRecDepth 10000 in
theorem gmf_X6_dateText : gMF mX6_dateText 0 := ⟨gmt3 206 rfl rfl, gmt1 3 rfl rfl, by decide +kernel, by decide⟩
set_option maxRecDepth 10000 in
theorem gmf_X6_number : gMF mX6_number 2 := ⟨gmt3 201 rfl rfl, gmt1 3 rfl rfl, by decide +kernel, by decide⟩
set_option maxRecDepth 10000 in
theorem gmf_X6_newName : gMF mX6_newName 0 := ⟨gmt3 158 rfl rfl, gmt1 3 rfl rfl, by decide +kernel, by decide⟩
set_option maxRecDepth 10000 in
theorem gmf_X6_knownName : gMF mX6_knownName 0 := ⟨gmt4 67 rfl rfl, gmt1 3 rfl rfl, by decide +kernel, by decide⟩
set_option maxRecDepth 10000 in
theorem gmf_X6_name : gMF mX6_name 0 := ⟨gmt3 162 rfl rfl, gmt1 3 rfl rfl, by decide +kernel, by decide⟩
set_option maxRecDepth 10000 in
theorem gmf_X6_isOwnWord : gMF mX6_isOwnWord 0 := ⟨gmt3 166 rfl rfl, gmt1 3 rfl rfl, by decide +kernel, by decide⟩
set_option maxRecDepth 10000 in
theorem gmf_X6_isWord : gMF mX6_isWord 1 := ⟨gmt3 98 rfl rfl, gmt1 3 rfl rfl, by decide +kernel, by decide⟩
set_option maxRecDepth 10000 in
theorem gmf_X6_wordAmong : gMF mX6_wordAmong 1 := ⟨gmt3 171 rfl rfl, gmt1 3 rfl rfl, by decide +kernel, by decide⟩
set_option maxRecDepth 10000 in
theorem gmf_X6_isSign : gMF mX6_isSign 1 := ⟨gmt3 210 rfl rfl, gmt1 3 rfl rfl, by decide +kernel, by decide⟩
set_option maxRecDepth 10000 in
theorem gmf_X6_pass : gMF mX6_pass 1 := ⟨gmt3 197 rfl rfl, gmt1 3 rfl rfl, by decide +kernel, by decide⟩
set_option maxRecDepth 10000 in
theorem gmf_X6_refuse : gMF mX6_refuse 2 := ⟨gmt3 154 rfl rfl, gmt1 3 rfl rfl, by decide +kernel, by decide⟩
set_option maxRecDepth 10000 in
theorem gmf_X6_advance : gMF mX6_advance 0 := ⟨gmt3 93 rfl rfl, gmt1 3 rfl rfl, by decide +kernel, by decide⟩
set_option maxRecDepth 10000 in
theorem gmf_X7_init : gMF mX7_init 1 := ⟨gmt1 58 rfl rfl, gmt1 4 rfl rfl, by decide +kernel, by decide⟩
set_option maxRecDepth 10000 in
theorem gmf_X7_clear : gMF mX7_clear 0 := ⟨gmt2 163 rfl rfl, gmt1 4 rfl rfl, by decide +kernel, by decide⟩
set_option maxRecDepth 10000 in
theorem gmf_X7_valueAt : gMF mX7_valueAt 1 := ⟨gmt4 13 rfl rfl, gmt1 4 rfl rfl, by decide +kernel, by decide⟩
set_option maxRecDepth 10000 in
theorem gmf_X7_indexOf : gMF mX7_indexOf 1 := ⟨gmt3 20 rfl rfl, gmt1 4 rfl rfl, by decide +kernel, by decide⟩
set_option maxRecDepth 10000 in
theorem gmf_X7_append : gMF mX7_append 1 := ⟨gmt4 1 rfl rfl, gmt1 4 rfl rfl, by decide +kernel, by decide⟩
set_option maxRecDepth 10000 in
theorem gmf_X7_remove : gMF mX7_remove 1 := ⟨gmt5 154 rfl rfl, gmt1 4 rfl rfl, by decide +kernel, by decide⟩
set_option maxRecDepth 10000 in
theorem gmf_X7_copy : gMF mX7_copy 1 := ⟨gmt4 25 rfl rfl, gmt1 4 rfl rfl, by decide +kernel, by decide⟩
set_option maxRecDepth 10000 in
theorem gmf_X8_init : gMF mX8_init 0 := ⟨gmt2 65 rfl rfl, gmt1 13 rfl rfl, by decide +kernel, by decide⟩
set_option maxRecDepth 10000 in
theorem gmf_X8_clearParts : gMF mX8_clearParts 0 := ⟨gmt3 191 rfl rfl, gmt1 13 rfl rfl, by decide +kernel, by decide⟩
set_option maxRecDepth 10000 in
theorem gmf_X8_beginAt : gMF mX8_beginAt 1 := ⟨gmt3 218 rfl rfl, gmt1 13 rfl rfl, by decide +kernel, by decide⟩
set_option maxRecDepth 10000 in
theorem gmf_X8_tellMonths : gMF mX8_tellMonths 1 := ⟨gmt4 9 rfl rfl, gmt1 13 rfl rfl, by decide +kernel, by decide⟩
set_option maxRecDepth 10000 in
theorem gmf_X8_tellDates : gMF mX8_tellDates 1 := ⟨gmt4 17 rfl rfl, gmt1 13 rfl rfl, by decide +kernel, by decide⟩
set_option maxRecDepth 10000 in
theorem gmf_X8_tellWeekdays : gMF mX8_tellWeekdays 1 := ⟨gmt4 21 rfl rfl, gmt1 13 rfl rfl, by decide +kernel, by decide⟩
set_option maxRecDepth 10000 in
theorem gmf_X8_tell : gMF mX8_tell 1 := ⟨gmt4 121 rfl rfl, gmt1 13 rfl rfl, by decide +kernel, by decide⟩
set_option maxRecDepth 10000 in
theorem gmf_X8_goesBy : gMF mX8_goesBy 1 := ⟨gmt5 61 rfl rfl, gmt1 13 rfl rfl, by decide +kernel, by decide⟩
set_option maxRecDepth 10000 in
theorem gmf_X8_counts : gMF mX8_counts 1 := ⟨gmt2 227 rfl rfl, gmt1 13 rfl rfl, by decide +kernel, by decide⟩
set_option maxRecDepth 10000 in
theorem gmf_X8_countsInMonth : gMF mX8_countsInMonth 1 := ⟨gmt2 239 rfl rfl, gmt1 13 rfl rfl, by decide +kernel, by decide⟩
set_option maxRecDepth 10000 in
theorem gmf_X8_countsInYear : gMF mX8_countsInYear 1 := ⟨gmt3 7 rfl rfl, gmt1 13 rfl rfl, by decide +kernel, by decide⟩
set_option maxRecDepth 10000 in
theorem gmf_X8_dateTold : gMF mX8_dateTold 1 := ⟨gmt2 231 rfl rfl, gmt1 13 rfl rfl, by decide +kernel, by decide⟩
set_option maxRecDepth 10000 in
theorem gmf_X8_weekdayTold : gMF mX8_weekdayTold 1 := ⟨gmt2 235 rfl rfl, gmt1 13 rfl rfl, by decide +kernel, by decide⟩
set_option maxRecDepth 10000 in
theorem gmf_X8_placeTold : gMF mX8_placeTold 3 := ⟨gmt3 3 rfl rfl, gmt1 13 rfl rfl, by decide +kernel, by decide⟩
set_option maxRecDepth 10000 in
theorem gmf_X9_init : gMF mX9_init 1 := ⟨gmt2 6 rfl rfl, gmt1 11 rfl rfl, by decide +kernel, by decide⟩
set_option maxRecDepth 10000 in
theorem gmf_X9_isTold : gMF mX9_isTold 1 := ⟨gmt5 76 rfl rfl, gmt1 11 rfl rfl, by decide +kernel, by decide⟩
set_option maxRecDepth 10000 in
theorem gmf_X9_dayAt : gMF mX9_dayAt 2 := ⟨gmt5 79 rfl rfl, gmt1 11 rfl rfl, by decide +kernel, by decide⟩
set_option maxRecDepth 10000 in
theorem gmf_X9_take : gMF mX9_take 2 := ⟨gmt5 88 rfl rfl, gmt1 11 rfl rfl, by decide +kernel, by decide⟩
set_option maxRecDepth 10000 in
theorem gmf_X9_clear : gMF mX9_clear 0 := ⟨gmt4 85 rfl rfl, gmt1 11 rfl rfl, by decide +kernel, by decide⟩
set_option maxRecDepth 10000 in
theorem gmf_X9_forget : gMF mX9_forget 0 := ⟨gmt5 190 rfl rfl, gmt1 11 rfl rfl, by decide +kernel, by decide⟩
set_option maxRecDepth 10000 in
theorem gmf_X9_fitAt : gMF mX9_fitAt 1 := ⟨gmt5 123 rfl rfl, gmt1 11 rfl rfl, by decide +kernel, by decide⟩
set_option maxRecDepth 10000 in
theorem gmf_X9_workOut : gMF mX9_workOut 0 := ⟨gmt5 97 rfl rfl, gmt1 11 rfl rfl, by decide +kernel, by decide⟩
set_option maxRecDepth 10000 in
theorem gmf_X9_isSo : gMF mX9_isSo 0 := ⟨gmt5 108 rfl rfl, gmt1 11 rfl rfl, by decide +kernel, by decide⟩
set_option maxRecDepth 10000 in
theorem gmf_X9_countYear : gMF mX9_countYear 2 := ⟨gmt5 114 rfl rfl, gmt1 11 rfl rfl, by decide +kernel, by decide⟩
set_option maxRecDepth 10000 in
theorem gmf_X9_choose : gMF mX9_choose 2 := ⟨gmt5 118 rfl rfl, gmt1 11 rfl rfl, by decide +kernel, by decide⟩
set_option maxRecDepth 10000 in
theorem gmf_X10_init : gMF mX10_init 0 := ⟨gmt1 34 rfl rfl, gmt1 2 rfl rfl, by decide +kernel, by decide⟩
set_option maxRecDepth 10000 in
theorem gmf_X10_append : gMF mX10_append 1 := ⟨gmt3 68 rfl rfl, gmt1 2 rfl rfl, by decide +kernel, by decide⟩
set_option maxRecDepth 10000 in
theorem gmf_X10_byteAt : gMF mX10_byteAt 1 := ⟨gmt5 83 rfl rfl, gmt1 2 rfl rfl, by decide +kernel, by decide⟩
set_option maxRecDepth 10000 in
theorem gmf_X11_init : gMF mX11_init 0 := ⟨gmt1 26 rfl rfl, gmt1 1 rfl rfl, by decide +kernel, by decide⟩
set_option maxRecDepth 10000 in
theorem gmf_X11_feed : gMF mX11_feed 5 := ⟨gmt3 60 rfl rfl, gmt1 1 rfl rfl, by decide +kernel, by decide⟩
set_option maxRecDepth 10000 in
theorem gmf_X11_end : gMF mX11_end 1 := ⟨gmt3 72 rfl rfl, gmt1 1 rfl rfl, by decide +kernel, by decide⟩
set_option maxRecDepth 10000 in
theorem gmf_X11_book : gMF mX11_book 0 := ⟨gmt3 80 rfl rfl, gmt1 1 rfl rfl, by decide +kernel, by decide⟩
set_option maxRecDepth 10000 in
theorem gmf_X11_fault : gMF mX11_fault 1 := ⟨gmt4 89 rfl rfl, gmt1 1 rfl rfl, by decide +kernel, by decide⟩
set_option maxRecDepth 10000 in
theorem gmf_X11_has : gMF mX11_has 1 := ⟨gmt4 93 rfl rfl, gmt1 1 rfl rfl, by decide +kernel, by decide⟩
set_option maxRecDepth 10000 in
theorem gmf_X11_letter : gMF mX11_letter 2 := ⟨gmt4 107 rfl rfl, gmt1 1 rfl rfl, by decide +kernel, by decide⟩
set_option maxRecDepth 10000 in
theorem gmf_X11_rule : gMF mX11_rule 2 := ⟨gmt4 116 rfl rfl, gmt1 1 rfl rfl, by decide +kernel, by decide⟩
set_option maxRecDepth 10000 in
theorem gmf_X11_day : gMF mX11_day 3 := ⟨gmt4 125 rfl rfl, gmt1 1 rfl rfl, by decide +kernel, by decide⟩
set_option maxRecDepth 10000 in
theorem gmf_X11_date : gMF mX11_date 2 := ⟨gmt4 131 rfl rfl, gmt1 1 rfl rfl, by decide +kernel, by decide⟩
set_option maxRecDepth 10000 in
theorem gmf_X11_on : gMF mX11_on 2 := ⟨gmt4 140 rfl rfl, gmt1 1 rfl rfl, by decide +kernel, by decide⟩
set_option maxRecDepth 10000 in
theorem gmf_X11_next : gMF mX11_next 2 := ⟨gmt5 1 rfl rfl, gmt1 1 rfl rfl, by decide +kernel, by decide⟩
set_option maxRecDepth 10000 in
theorem gmf_X11_ahead : gMF mX11_ahead 2 := ⟨gmt5 9 rfl rfl, gmt1 1 rfl rfl, by decide +kernel, by decide⟩
set_option maxRecDepth 10000 in
theorem gmf_X11_nth : gMF mX11_nth 2 := ⟨gmt5 17 rfl rfl, gmt1 1 rfl rfl, by decide +kernel, by decide⟩
set_option maxRecDepth 10000 in
theorem gmf_X11_many : gMF mX11_many 3 := ⟨gmt5 29 rfl rfl, gmt1 1 rfl rfl, by decide +kernel, by decide⟩
set_option maxRecDepth 10000 in
theorem gmf_X11_gap : gMF mX11_gap 2 := ⟨gmt5 33 rfl rfl, gmt1 1 rfl rfl, by decide +kernel, by decide⟩
set_option maxRecDepth 10000 in
theorem gmf_X11_free : gMF mX11_free 3 := ⟨gmt5 37 rfl rfl, gmt1 1 rfl rfl, by decide +kernel, by decide⟩
set_option maxRecDepth 10000 in
theorem gmf_X11_meet : gMF mX11_meet 4 := ⟨gmt5 45 rfl rfl, gmt1 1 rfl rfl, by decide +kernel, by decide⟩
set_option maxRecDepth 10000 in
theorem gmf_X11_fares : gMF mX11_fares 2 := ⟨gmt5 50 rfl rfl, gmt1 1 rfl rfl, by decide +kernel, by decide⟩
set_option maxRecDepth 10000 in
theorem gmf_X11_period : gMF mX11_period 3 := ⟨gmt5 56 rfl rfl, gmt1 1 rfl rfl, by decide +kernel, by decide⟩
set_option maxRecDepth 10000 in
theorem gmf_X11_sum : gMF mX11_sum 1 := ⟨gmt5 68 rfl rfl, gmt1 1 rfl rfl, by decide +kernel, by decide⟩
set_option maxRecDepth 10000 in
theorem gmf_X11_see : gMF mX11_see 1 := ⟨gmt5 73 rfl rfl, gmt1 1 rfl rfl, by decide +kernel, by decide⟩
set_option maxRecDepth 10000 in
theorem gmf_X11_fits : gMF mX11_fits 1 := ⟨gmt5 93 rfl rfl, gmt1 1 rfl rfl, by decide +kernel, by decide⟩
set_option maxRecDepth 10000 in
theorem gmf_X11_tells : gMF mX11_tells 1 := ⟨gmt5 128 rfl rfl, gmt1 1 rfl rfl, by decide +kernel, by decide⟩
set_option maxRecDepth 10000 in
theorem gmf_X11_add : gMF mX11_add 2 := ⟨gmt5 132 rfl rfl, gmt1 1 rfl rfl, by decide +kernel, by decide⟩
set_option maxRecDepth 10000 in
theorem gmf_X11_leave : gMF mX11_leave 2 := ⟨gmt5 175 rfl rfl, gmt1 1 rfl rfl, by decide +kernel, by decide⟩
set_option maxRecDepth 10000 in
theorem gmf_X11_every : gMF mX11_every 2 := ⟨gmt5 179 rfl rfl, gmt1 1 rfl rfl, by decide +kernel, by decide⟩
set_option maxRecDepth 10000 in
theorem gmf_X11_from : gMF mX11_from 2 := ⟨gmt5 185 rfl rfl, gmt1 1 rfl rfl, by decide +kernel, by decide⟩
set_option maxRecDepth 10000 in
theorem gmf_X11_chance : gMF mX11_chance 1 := ⟨gmt5 194 rfl rfl, gmt1 1 rfl rfl, by decide +kernel, by decide⟩
set_option maxRecDepth 10000 in
theorem gmf_X11_undo : gMF mX11_undo 0 := ⟨gmt5 205 rfl rfl, gmt1 1 rfl rfl, by decide +kernel, by decide⟩
set_option maxRecDepth 10000 in
theorem gmf_X11_seed : gMF mX11_seed 1 := ⟨gmt5 234 rfl rfl, gmt1 1 rfl rfl, by decide +kernel, by decide⟩
set_option maxRecDepth 10000 in
theorem gmf_X11_status : gMF mX11_status 1 := ⟨gmt5 238 rfl rfl, gmt1 1 rfl rfl, by decide +kernel, by decide⟩
set_option maxRecDepth 10000 in
theorem gmf_X11_isDay : gMF mX11_isDay 1 := ⟨gmt2 220 rfl rfl, gmt1 1 rfl rfl, by decide +kernel, by decide⟩
set_option maxRecDepth 10000 in
theorem gmf_X11_refuse : gMF mX11_refuse 1 := ⟨gmt3 64 rfl rfl, gmt1 1 rfl rfl, by decide +kernel, by decide⟩
set_option maxRecDepth 10000 in
theorem gmf_X11_deny : gMF mX11_deny 1 := ⟨gmt3 76 rfl rfl, gmt1 1 rfl rfl, by decide +kernel, by decide⟩
set_option maxRecDepth 10000 in
theorem gmf_X11_turn : gMF mX11_turn 3 := ⟨gmt5 136 rfl rfl, gmt1 1 rfl rfl, by decide +kernel, by decide⟩
set_option maxRecDepth 10000 in
theorem gmf_X11_restoreRule : gMF mX11_restoreRule 0 := ⟨gmt5 217 rfl rfl, gmt1 1 rfl rfl, by decide +kernel, by decide⟩
set_option maxRecDepth 10000 in
theorem gmf_X11_draw : gMF mX11_draw 1 := ⟨gmt5 198 rfl rfl, gmt1 1 rfl rfl, by decide +kernel, by decide⟩
set_option maxRecDepth 10000 in
theorem gmf_X12_init : gMF mX12_init 0 := ⟨gmt6 3 rfl rfl, gmt1 15 rfl rfl, by decide +kernel, by decide⟩
set_option maxRecDepth 10000 in
theorem gmf_X12_isIn : gMF mX12_isIn 3 := ⟨gmt6 173 rfl rfl, gmt1 15 rfl rfl, by decide +kernel, by decide⟩
set_option maxRecDepth 10000 in
theorem gmf_X12_flag : gMF mX12_flag 1 := ⟨gmt8 4 rfl rfl, gmt1 15 rfl rfl, by decide +kernel, by decide⟩
set_option maxRecDepth 10000 in
theorem gmf_X12_isOf : gMF mX12_isOf 2 := ⟨gmt7 41 rfl rfl, gmt1 15 rfl rfl, by decide +kernel, by decide⟩
set_option maxRecDepth 10000 in
theorem gmf_X12_refuses : gMF mX12_refuses 1 := ⟨gmt6 157 rfl rfl, gmt1 15 rfl rfl, by decide +kernel, by decide⟩
set_option maxRecDepth 10000 in
theorem gmf_X12_isRefused : gMF mX12_isRefused 1 := ⟨gmt6 165 rfl rfl, gmt1 15 rfl rfl, by decide +kernel, by decide⟩
set_option maxRecDepth 10000 in
theorem gmf_X12_feed : gMF mX12_feed 5 := ⟨gmt6 153 rfl rfl, gmt1 15 rfl rfl, by decide +kernel, by decide⟩
set_option maxRecDepth 10000 in
theorem gmf_X12_end : gMF mX12_end 1 := ⟨gmt6 161 rfl rfl, gmt1 15 rfl rfl, by decide +kernel, by decide⟩
set_option maxRecDepth 10000 in
theorem gmf_X12_status : gMF mX12_status 1 := ⟨gmt6 169 rfl rfl, gmt1 15 rfl rfl, by decide +kernel, by decide⟩
set_option maxRecDepth 10000 in
theorem gmf_X12_fault : gMF mX12_fault 1 := ⟨gmt6 177 rfl rfl, gmt1 15 rfl rfl, by decide +kernel, by decide⟩
set_option maxRecDepth 10000 in
theorem gmf_X12_fail : gMF mX12_fail 2 := ⟨gmt6 199 rfl rfl, gmt1 15 rfl rfl, by decide +kernel, by decide⟩
set_option maxRecDepth 10000 in
theorem gmf_X12_isLetter : gMF mX12_isLetter 1 := ⟨gmt6 218 rfl rfl, gmt1 15 rfl rfl, by decide +kernel, by decide⟩
set_option maxRecDepth 10000 in
theorem gmf_X12_isDigit : gMF mX12_isDigit 1 := ⟨gmt7 19 rfl rfl, gmt1 15 rfl rfl, by decide +kernel, by decide⟩
set_option maxRecDepth 10000 in
theorem gmf_X12_look : gMF mX12_look 0 := ⟨gmt6 195 rfl rfl, gmt1 15 rfl rfl, by decide +kernel, by decide⟩
set_option maxRecDepth 10000 in
theorem gmf_X12_isWordHere : gMF mX12_isWordHere 0 := ⟨gmt6 215 rfl rfl, gmt1 15 rfl rfl, by decide +kernel, by decide⟩
set_option maxRecDepth 10000 in
theorem gmf_X12_takesSign : gMF mX12_takesSign 1 := ⟨gmt7 32 rfl rfl, gmt1 15 rfl rfl, by decide +kernel, by decide⟩
set_option maxRecDepth 10000 in
theorem gmf_X12_asksSign : gMF mX12_asksSign 1 := ⟨gmt7 28 rfl rfl, gmt1 15 rfl rfl, by decide +kernel, by decide⟩
set_option maxRecDepth 10000 in
theorem gmf_X12_number : gMF mX12_number 2 := ⟨gmt7 16 rfl rfl, gmt1 15 rfl rfl, by decide +kernel, by decide⟩
set_option maxRecDepth 10000 in
theorem gmf_X12_ownHere : gMF mX12_ownHere 0 := ⟨gmt6 211 rfl rfl, gmt1 15 rfl rfl, by decide +kernel, by decide⟩
set_option maxRecDepth 10000 in
theorem gmf_X12_isLike : gMF mX12_isLike 2 := ⟨gmt6 222 rfl rfl, gmt1 15 rfl rfl, by decide +kernel, by decide⟩
set_option maxRecDepth 10000 in
theorem gmf_X12_passes : gMF mX12_passes 0 := ⟨gmt6 226 rfl rfl, gmt1 15 rfl rfl, by decide +kernel, by decide⟩
set_option maxRecDepth 10000 in
theorem gmf_X12_takes : gMF mX12_takes 1 := ⟨gmt6 207 rfl rfl, gmt1 15 rfl rfl, by decide +kernel, by decide⟩
set_option maxRecDepth 10000 in
theorem gmf_X12_asks : gMF mX12_asks 1 := ⟨gmt7 12 rfl rfl, gmt1 15 rfl rfl, by decide +kernel, by decide⟩
set_option maxRecDepth 10000 in
theorem gmf_X12_name : gMF mX12_name 0 := ⟨gmt7 1 rfl rfl, gmt1 15 rfl rfl, by decide +kernel, by decide⟩
set_option maxRecDepth 10000 in
theorem gmf_X12_isLeap : gMF mX12_isLeap 1 := ⟨gmt6 191 rfl rfl, gmt1 15 rfl rfl, by decide +kernel, by decide⟩
set_option maxRecDepth 10000 in
theorem gmf_X12_longMonth : gMF mX12_longMonth 2 := ⟨gmt6 188 rfl rfl, gmt1 15 rfl rfl, by decide +kernel, by decide⟩
set_option maxRecDepth 10000 in
theorem gmf_X12_laysDays : gMF mX12_laysDays 0 := ⟨gmt6 185 rfl rfl, gmt1 15 rfl rfl, by decide +kernel, by decide⟩
set_option maxRecDepth 10000 in
theorem gmf_X12_weekdayOf : gMF mX12_weekdayOf 1 := ⟨gmt7 169 rfl rfl, gmt1 15 rfl rfl, by decide +kernel, by decide⟩
set_option maxRecDepth 10000 in
theorem gmf_X12_dayOf : gMF mX12_dayOf 3 := ⟨gmt7 36 rfl rfl, gmt1 15 rfl rfl, by decide +kernel, by decide⟩
set_option maxRecDepth 10000 in
theorem gmf_X12_ruleAt : gMF mX12_ruleAt 2 := ⟨gmt6 233 rfl rfl, gmt1 15 rfl rfl, by decide +kernel, by decide⟩
set_option maxRecDepth 10000 in
theorem gmf_X12_setAt : gMF mX12_setAt 2 := ⟨gmt7 8 rfl rfl, gmt1 15 rfl rfl, by decide +kernel, by decide⟩
set_option maxRecDepth 10000 in
theorem gmf_X12_named : gMF mX12_named 1 := ⟨gmt7 5 rfl rfl, gmt1 15 rfl rfl, by decide +kernel, by decide⟩
set_option maxRecDepth 10000 in
theorem gmf_X12_newName : gMF mX12_newName 0 := ⟨gmt6 237 rfl rfl, gmt1 15 rfl rfl, by decide +kernel, by decide⟩
set_option maxRecDepth 10000 in
theorem gmf_X12_what : gMF mX12_what 0 := ⟨gmt7 95 rfl rfl, gmt1 15 rfl rfl, by decide +kernel, by decide⟩
set_option maxRecDepth 10000 in
theorem gmf_X12_date : gMF mX12_date 0 := ⟨gmt7 24 rfl rfl, gmt1 15 rfl rfl, by decide +kernel, by decide⟩
set_option maxRecDepth 10000 in
theorem gmf_X12_place : gMF mX12_place 1 := ⟨gmt7 61 rfl rfl, gmt1 15 rfl rfl, by decide +kernel, by decide⟩
set_option maxRecDepth 10000 in
theorem gmf_X12_room : gMF mX12_room 1 := ⟨gmt7 53 rfl rfl, gmt1 15 rfl rfl, by decide +kernel, by decide⟩
set_option maxRecDepth 10000 in
theorem gmf_X12_inTold : gMF mX12_inTold 1 := ⟨gmt7 49 rfl rfl, gmt1 15 rfl rfl, by decide +kernel, by decide⟩
set_option maxRecDepth 10000 in
theorem gmf_X12_placesTold : gMF mX12_placesTold 4 := ⟨gmt7 57 rfl rfl, gmt1 15 rfl rfl, by decide +kernel, by decide⟩
set_option maxRecDepth 10000 in
theorem gmf_X12_weekday : gMF mX12_weekday 0 := ⟨gmt7 69 rfl rfl, gmt1 15 rfl rfl, by decide +kernel, by decide⟩
set_option maxRecDepth 10000 in
theorem gmf_X12_byTold : gMF mX12_byTold 1 := ⟨gmt7 65 rfl rfl, gmt1 15 rfl rfl, by decide +kernel, by decide⟩
set_option maxRecDepth 10000 in
theorem gmf_X12_partTold : gMF mX12_partTold 2 := ⟨gmt7 45 rfl rfl, gmt1 15 rfl rfl, by decide +kernel, by decide⟩
set_option maxRecDepth 10000 in
theorem gmf_X12_ruleTold : gMF mX12_ruleTold 1 := ⟨gmt6 230 rfl rfl, gmt1 15 rfl rfl, by decide +kernel, by decide⟩
set_option maxRecDepth 10000 in
theorem gmf_X12_codes : gMF mX12_codes 2 := ⟨gmt7 91 rfl rfl, gmt1 15 rfl rfl, by decide +kernel, by decide⟩
set_option maxRecDepth 10000 in
theorem gmf_X12_opens : gMF mX12_opens 1 := ⟨gmt7 83 rfl rfl, gmt1 15 rfl rfl, by decide +kernel, by decide⟩
set_option maxRecDepth 10000 in
theorem gmf_X12_joins : gMF mX12_joins 1 := ⟨gmt7 107 rfl rfl, gmt1 15 rfl rfl, by decide +kernel, by decide⟩
set_option maxRecDepth 10000 in
theorem gmf_X12_daysTold : gMF mX12_daysTold 0 := ⟨gmt7 87 rfl rfl, gmt1 15 rfl rfl, by decide +kernel, by decide⟩
set_option maxRecDepth 10000 in
theorem gmf_X12_movesTold : gMF mX12_movesTold 0 := ⟨gmt7 103 rfl rfl, gmt1 15 rfl rfl, by decide +kernel, by decide⟩
set_option maxRecDepth 10000 in
theorem gmf_X12_goesOn : gMF mX12_goesOn 0 := ⟨gmt7 99 rfl rfl, gmt1 15 rfl rfl, by decide +kernel, by decide⟩
set_option maxRecDepth 10000 in
theorem gmf_X12_sumTold : gMF mX12_sumTold 0 := ⟨gmt7 79 rfl rfl, gmt1 15 rfl rfl, by decide +kernel, by decide⟩
set_option maxRecDepth 10000 in
theorem gmf_X12_setTold : gMF mX12_setTold 1 := ⟨gmt7 75 rfl rfl, gmt1 15 rfl rfl, by decide +kernel, by decide⟩
set_option maxRecDepth 10000 in
theorem gmf_X12_statementTold : gMF mX12_statementTold 0 := ⟨gmt6 203 rfl rfl, gmt1 15 rfl rfl, by decide +kernel, by decide⟩
set_option maxRecDepth 10000 in
theorem gmf_X12_book : gMF mX12_book 0 := ⟨gmt6 181 rfl rfl, gmt1 15 rfl rfl, by decide +kernel, by decide⟩
set_option maxRecDepth 10000 in
theorem gmf_X12_handAt : gMF mX12_handAt 2 := ⟨gmt7 126 rfl rfl, gmt1 15 rfl rfl, by decide +kernel, by decide⟩
set_option maxRecDepth 10000 in
theorem gmf_X12_begins : gMF mX12_begins 0 := ⟨gmt7 111 rfl rfl, gmt1 15 rfl rfl, by decide +kernel, by decide⟩
set_option maxRecDepth 10000 in
theorem gmf_X12_allAnew : gMF mX12_allAnew 0 := ⟨gmt7 115 rfl rfl, gmt1 15 rfl rfl, by decide +kernel, by decide⟩
set_option maxRecDepth 10000 in
theorem gmf_X12_isRule : gMF mX12_isRule 1 := ⟨gmt7 138 rfl rfl, gmt1 15 rfl rfl, by decide +kernel, by decide⟩
set_option maxRecDepth 10000 in
theorem gmf_X12_isSet : gMF mX12_isSet 1 := ⟨gmt7 142 rfl rfl, gmt1 15 rfl rfl, by decide +kernel, by decide⟩
set_option maxRecDepth 10000 in
theorem gmf_X12_isWhat : gMF mX12_isWhat 1 := ⟨gmt7 134 rfl rfl, gmt1 15 rfl rfl, by decide +kernel, by decide⟩
set_option maxRecDepth 10000 in
theorem gmf_X12_isDay : gMF mX12_isDay 1 := ⟨gmt7 165 rfl rfl, gmt1 15 rfl rfl, by decide +kernel, by decide⟩
set_option maxRecDepth 10000 in
theorem gmf_X12_ruleHas : gMF mX12_ruleHas 2 := ⟨gmt7 146 rfl rfl, gmt1 15 rfl rfl, by decide +kernel, by decide⟩
set_option maxRecDepth 10000 in
theorem gmf_X12_fromOf : gMF mX12_fromOf 1 := ⟨gmt7 154 rfl rfl, gmt1 15 rfl rfl, by decide +kernel, by decide⟩
set_option maxRecDepth 10000 in
theorem gmf_X12_periodOf : gMF mX12_periodOf 2 := ⟨gmt7 197 rfl rfl, gmt1 15 rfl rfl, by decide +kernel, by decide⟩
set_option maxRecDepth 10000 in
theorem gmf_X12_longMonthOf : gMF mX12_longMonthOf 1 := ⟨gmt7 173 rfl rfl, gmt1 15 rfl rfl, by decide +kernel, by decide⟩
set_option maxRecDepth 10000 in
theorem gmf_X12_isDated : gMF mX12_isDated 2 := ⟨gmt7 217 rfl rfl, gmt1 15 rfl rfl, by decide +kernel, by decide⟩
set_option maxRecDepth 10000 in
theorem gmf_X12_isWeekday : gMF mX12_isWeekday 2 := ⟨gmt7 225 rfl rfl, gmt1 15 rfl rfl, by decide +kernel, by decide⟩
set_option maxRecDepth 10000 in
theorem gmf_X12_isPlaced : gMF mX12_isPlaced 4 := ⟨gmt7 233 rfl rfl, gmt1 15 rfl rfl, by decide +kernel, by decide⟩
set_option maxRecDepth 10000 in
theorem gmf_X12_hasIn : gMF mX12_hasIn 1 := ⟨gmt7 209 rfl rfl, gmt1 15 rfl rfl, by decide +kernel, by decide⟩
set_option maxRecDepth 10000 in
theorem gmf_X12_hasOn : gMF mX12_hasOn 1 := ⟨gmt7 213 rfl rfl, gmt1 15 rfl rfl, by decide +kernel, by decide⟩
set_option maxRecDepth 10000 in
theorem gmf_X12_hasBy : gMF mX12_hasBy 1 := ⟨gmt7 221 rfl rfl, gmt1 15 rfl rfl, by decide +kernel, by decide⟩
set_option maxRecDepth 10000 in
theorem gmf_X12_isInMonths : gMF mX12_isInMonths 2 := ⟨gmt7 205 rfl rfl, gmt1 15 rfl rfl, by decide +kernel, by decide⟩
set_option maxRecDepth 10000 in
theorem gmf_X12_isDateOfBegin : gMF mX12_isDateOfBegin 2 := ⟨gmt7 237 rfl rfl, gmt1 15 rfl rfl, by decide +kernel, by decide⟩
set_option maxRecDepth 10000 in
theorem gmf_X12_isOfMonth : gMF mX12_isOfMonth 2 := ⟨gmt7 229 rfl rfl, gmt1 15 rfl rfl, by decide +kernel, by decide⟩
set_option maxRecDepth 10000 in
theorem gmf_X12_isOfYear : gMF mX12_isOfYear 2 := ⟨gmt8 1 rfl rfl, gmt1 15 rfl rfl, by decide +kernel, by decide⟩
set_option maxRecDepth 10000 in
theorem gmf_X12_isOfPeriod : gMF mX12_isOfPeriod 2 := ⟨gmt7 201 rfl rfl, gmt1 15 rfl rfl, by decide +kernel, by decide⟩
set_option maxRecDepth 10000 in
theorem gmf_X12_isAt : gMF mX12_isAt 3 := ⟨gmt8 8 rfl rfl, gmt1 15 rfl rfl, by decide +kernel, by decide⟩
set_option maxRecDepth 10000 in
theorem gmf_X12_laysPeriod : gMF mX12_laysPeriod 2 := ⟨gmt7 193 rfl rfl, gmt1 15 rfl rfl, by decide +kernel, by decide⟩
set_option maxRecDepth 10000 in
theorem gmf_X12_laysBase : gMF mX12_laysBase 1 := ⟨gmt7 189 rfl rfl, gmt1 15 rfl rfl, by decide +kernel, by decide⟩
set_option maxRecDepth 10000 in
theorem gmf_X12_isGone : gMF mX12_isGone 3 := ⟨gmt8 16 rfl rfl, gmt1 15 rfl rfl, by decide +kernel, by decide⟩
set_option maxRecDepth 10000 in
theorem gmf_X12_laysDaysBy : gMF mX12_laysDaysBy 4 := ⟨gmt8 12 rfl rfl, gmt1 15 rfl rfl, by decide +kernel, by decide⟩
set_option maxRecDepth 10000 in
theorem gmf_X12_puts : gMF mX12_puts 1 := ⟨gmt8 32 rfl rfl, gmt1 15 rfl rfl, by decide +kernel, by decide⟩
set_option maxRecDepth 10000 in
theorem gmf_X12_putsDay : gMF mX12_putsDay 1 := ⟨gmt8 36 rfl rfl, gmt1 15 rfl rfl, by decide +kernel, by decide⟩
set_option maxRecDepth 10000 in
theorem gmf_X12_joinsTop : gMF mX12_joinsTop 1 := ⟨gmt8 48 rfl rfl, gmt1 15 rfl rfl, by decide +kernel, by decide⟩
set_option maxRecDepth 10000 in
theorem gmf_X12_movesTop : gMF mX12_movesTop 1 := ⟨gmt8 40 rfl rfl, gmt1 15 rfl rfl, by decide +kernel, by decide⟩
set_option maxRecDepth 10000 in
theorem gmf_X12_goesOff : gMF mX12_goesOff 1 := ⟨gmt8 44 rfl rfl, gmt1 15 rfl rfl, by decide +kernel, by decide⟩
set_option maxRecDepth 10000 in
theorem gmf_X12_does : gMF mX12_does 2 := ⟨gmt8 28 rfl rfl, gmt1 15 rfl rfl, by decide +kernel, by decide⟩
set_option maxRecDepth 10000 in
theorem gmf_X12_laysSet : gMF mX12_laysSet 1 := ⟨gmt8 24 rfl rfl, gmt1 15 rfl rfl, by decide +kernel, by decide⟩
set_option maxRecDepth 10000 in
theorem gmf_X12_lays : gMF mX12_lays 1 := ⟨gmt7 185 rfl rfl, gmt1 15 rfl rfl, by decide +kernel, by decide⟩
set_option maxRecDepth 10000 in
theorem gmf_X12_lays0 : gMF mX12_lays0 1 := ⟨gmt8 20 rfl rfl, gmt1 15 rfl rfl, by decide +kernel, by decide⟩
set_option maxRecDepth 10000 in
theorem gmf_X12_isOn : gMF mX12_isOn 2 := ⟨gmt8 52 rfl rfl, gmt1 15 rfl rfl, by decide +kernel, by decide⟩
set_option maxRecDepth 10000 in
theorem gmf_X12_handMany : gMF mX12_handMany 1 := ⟨gmt7 123 rfl rfl, gmt1 15 rfl rfl, by decide +kernel, by decide⟩
set_option maxRecDepth 10000 in
theorem gmf_X12_has : gMF mX12_has 1 := ⟨gmt7 119 rfl rfl, gmt1 15 rfl rfl, by decide +kernel, by decide⟩
set_option maxRecDepth 10000 in
theorem gmf_X12_letter : gMF mX12_letter 2 := ⟨gmt7 130 rfl rfl, gmt1 15 rfl rfl, by decide +kernel, by decide⟩
set_option maxRecDepth 10000 in
theorem gmf_X12_rule : gMF mX12_rule 2 := ⟨gmt7 150 rfl rfl, gmt1 15 rfl rfl, by decide +kernel, by decide⟩
set_option maxRecDepth 10000 in
theorem gmf_X12_day : gMF mX12_day 3 := ⟨gmt7 158 rfl rfl, gmt1 15 rfl rfl, by decide +kernel, by decide⟩
set_option maxRecDepth 10000 in
theorem gmf_X12_date_ : gMF mX12_date_ 2 := ⟨gmt7 162 rfl rfl, gmt1 15 rfl rfl, by decide +kernel, by decide⟩
set_option maxRecDepth 10000 in
theorem gmf_X12_isAsked : gMF mX12_isAsked 1 := ⟨gmt7 181 rfl rfl, gmt1 15 rfl rfl, by decide +kernel, by decide⟩
set_option maxRecDepth 10000 in
theorem gmf_X12_on : gMF mX12_on 2 := ⟨gmt7 177 rfl rfl, gmt1 15 rfl rfl, by decide +kernel, by decide⟩
set_option maxRecDepth 10000 in
theorem gmf_X12_next : gMF mX12_next 2 := ⟨gmt8 56 rfl rfl, gmt1 15 rfl rfl, by decide +kernel, by decide⟩
set_option maxRecDepth 10000 in
theorem gmf_X12_ahead : gMF mX12_ahead 2 := ⟨gmt8 61 rfl rfl, gmt1 15 rfl rfl, by decide +kernel, by decide⟩
set_option maxRecDepth 10000 in
theorem gmf_X12_count : gMF mX12_count 3 := ⟨gmt8 70 rfl rfl, gmt1 15 rfl rfl, by decide +kernel, by decide⟩
set_option maxRecDepth 10000 in
theorem gmf_X12_nth : gMF mX12_nth 2 := ⟨gmt8 66 rfl rfl, gmt1 15 rfl rfl, by decide +kernel, by decide⟩
set_option maxRecDepth 10000 in
theorem gmf_X12_many : gMF mX12_many 3 := ⟨gmt8 74 rfl rfl, gmt1 15 rfl rfl, by decide +kernel, by decide⟩
set_option maxRecDepth 10000 in
theorem gmf_X12_gap : gMF mX12_gap 2 := ⟨gmt8 78 rfl rfl, gmt1 15 rfl rfl, by decide +kernel, by decide⟩
set_option maxRecDepth 10000 in
theorem gmf_X12_free : gMF mX12_free 3 := ⟨gmt8 82 rfl rfl, gmt1 15 rfl rfl, by decide +kernel, by decide⟩
set_option maxRecDepth 10000 in
theorem gmf_X12_meet : gMF mX12_meet 4 := ⟨gmt8 87 rfl rfl, gmt1 15 rfl rfl, by decide +kernel, by decide⟩
set_option maxRecDepth 10000 in
theorem gmf_X12_fares : gMF mX12_fares 2 := ⟨gmt8 91 rfl rfl, gmt1 15 rfl rfl, by decide +kernel, by decide⟩
set_option maxRecDepth 10000 in
theorem gmf_X12_period : gMF mX12_period 3 := ⟨gmt8 96 rfl rfl, gmt1 15 rfl rfl, by decide +kernel, by decide⟩
set_option maxRecDepth 10000 in
theorem gmf_X12_sum : gMF mX12_sum 1 := ⟨gmt8 101 rfl rfl, gmt1 15 rfl rfl, by decide +kernel, by decide⟩
set_option maxRecDepth 10000 in
theorem gmf_X12_see : gMF mX12_see 1 := ⟨gmt8 106 rfl rfl, gmt1 15 rfl rfl, by decide +kernel, by decide⟩
set_option maxRecDepth 10000 in
theorem gmf_X12_laysFits : gMF mX12_laysFits 0 := ⟨gmt8 114 rfl rfl, gmt1 15 rfl rfl, by decide +kernel, by decide⟩
set_option maxRecDepth 10000 in
theorem gmf_X12_fits : gMF mX12_fits 1 := ⟨gmt8 110 rfl rfl, gmt1 15 rfl rfl, by decide +kernel, by decide⟩
set_option maxRecDepth 10000 in
theorem gmf_X12_tells : gMF mX12_tells 1 := ⟨gmt8 118 rfl rfl, gmt1 15 rfl rfl, by decide +kernel, by decide⟩
set_option maxRecDepth 10000 in
theorem gmf_X12_keeps : gMF mX12_keeps 0 := ⟨gmt8 138 rfl rfl, gmt1 15 rfl rfl, by decide +kernel, by decide⟩
set_option maxRecDepth 10000 in
theorem gmf_X12_undo : gMF mX12_undo 0 := ⟨gmt8 122 rfl rfl, gmt1 15 rfl rfl, by decide +kernel, by decide⟩
set_option maxRecDepth 10000 in
theorem gmf_X12_handOf : gMF mX12_handOf 3 := ⟨gmt8 134 rfl rfl, gmt1 15 rfl rfl, by decide +kernel, by decide⟩
set_option maxRecDepth 10000 in
theorem gmf_X12_canHand : gMF mX12_canHand 3 := ⟨gmt8 130 rfl rfl, gmt1 15 rfl rfl, by decide +kernel, by decide⟩
set_option maxRecDepth 10000 in
theorem gmf_X12_hands : gMF mX12_hands 3 := ⟨gmt8 142 rfl rfl, gmt1 15 rfl rfl, by decide +kernel, by decide⟩
set_option maxRecDepth 10000 in
theorem gmf_X12_add : gMF mX12_add 2 := ⟨gmt8 126 rfl rfl, gmt1 15 rfl rfl, by decide +kernel, by decide⟩
set_option maxRecDepth 10000 in
theorem gmf_X12_leave : gMF mX12_leave 2 := ⟨gmt8 146 rfl rfl, gmt1 15 rfl rfl, by decide +kernel, by decide⟩
set_option maxRecDepth 10000 in
theorem gmf_X12_every : gMF mX12_every 2 := ⟨gmt8 150 rfl rfl, gmt1 15 rfl rfl, by decide +kernel, by decide⟩
set_option maxRecDepth 10000 in
theorem gmf_X12_from : gMF mX12_from 2 := ⟨gmt8 155 rfl rfl, gmt1 15 rfl rfl, by decide +kernel, by decide⟩
set_option maxRecDepth 10000 in
theorem gmf_X12_seed : gMF mX12_seed 1 := ⟨gmt8 159 rfl rfl, gmt1 15 rfl rfl, by decide +kernel, by decide⟩
set_option maxRecDepth 10000 in
theorem gmf_X12_drawOf : gMF mX12_drawOf 1 := ⟨gmt8 168 rfl rfl, gmt1 15 rfl rfl, by decide +kernel, by decide⟩
set_option maxRecDepth 10000 in
theorem gmf_X12_chance : gMF mX12_chance 1 := ⟨gmt8 163 rfl rfl, gmt1 15 rfl rfl, by decide +kernel, by decide⟩
set_option maxRecDepth 10000 in
theorem gmf_J13_bitCount_95d88 : gMF mJ13_bitCount_95d88 1 := ⟨gmt4 207 rfl rfl, gmt1 21 rfl rfl, by decide +kernel, by decide⟩
set_option maxRecDepth 10000 in
theorem gmf_J9_max_7cf53 : gMF mJ9_max_7cf53 2 := ⟨gmt1 62 rfl rfl, gmt1 5 rfl rfl, by decide +kernel, by decide⟩
set_option maxRecDepth 10000 in
theorem gmf_J9_min_7cf53 : gMF mJ9_min_7cf53 2 := ⟨gmt2 213 rfl rfl, gmt1 5 rfl rfl, by decide +kernel, by decide⟩
set_option maxRecDepth 10000 in
theorem gmf_J0_length_8abf5 : gMF mJ0_length_8abf5 0 := ⟨gmt3 102 rfl rfl, gmt1 16 rfl rfl, by decide +kernel, by decide⟩
set_option maxRecDepth 10000 in
theorem gmf_J0_charAt_5068e : gMF mJ0_charAt_5068e 1 := ⟨gmt3 112 rfl rfl, gmt1 16 rfl rfl, by decide +kernel, by decide⟩
set_option maxRecDepth 10000 in
theorem gmf_J0_coder_7d493 : gMF mJ0_coder_7d493 0 := ⟨gmt3 106 rfl rfl, gmt1 16 rfl rfl, by decide +kernel, by decide⟩
set_option maxRecDepth 10000 in
theorem gmf_J0_isLatin1_aae02 : gMF mJ0_isLatin1_aae02 0 := ⟨gmt3 116 rfl rfl, gmt1 16 rfl rfl, by decide +kernel, by decide⟩
set_option maxRecDepth 10000 in
theorem gmf_J0_checkIndex_df160 : gMF mJ0_checkIndex_df160 2 := ⟨gmt3 122 rfl rfl, gmt1 16 rfl rfl, by decide +kernel, by decide⟩
set_option maxRecDepth 10000 in
theorem gmf_J1_charAt_3b067 : gMF mJ1_charAt_3b067 2 := ⟨gmt3 119 rfl rfl, gmt1 17 rfl rfl, by decide +kernel, by decide⟩
set_option maxRecDepth 10000 in
theorem gmf_J2_getChar_3b067 : gMF mJ2_getChar_3b067 2 := ⟨gmt3 140 rfl rfl, gmt1 19 rfl rfl, by decide +kernel, by decide⟩
set_option maxRecDepth 10000 in
theorem gmf_J2_length_9d52b : gMF mJ2_length_9d52b 1 := ⟨gmt3 136 rfl rfl, gmt1 19 rfl rfl, by decide +kernel, by decide⟩
set_option maxRecDepth 10000 in
theorem gmf_J2_charAt_3b067 : gMF mJ2_charAt_3b067 2 := ⟨gmt3 130 rfl rfl, gmt1 19 rfl rfl, by decide +kernel, by decide⟩
set_option maxRecDepth 10000 in
theorem gmf_J2_checkIndex_2214a : gMF mJ2_checkIndex_2214a 2 := ⟨gmt3 133 rfl rfl, gmt1 19 rfl rfl, by decide +kernel, by decide⟩
set_option maxRecDepth 10000 in
theorem gmf_J7_fill_d0a16 : gMF mJ7_fill_d0a16 2 := ⟨gmt2 199 rfl rfl, gmt1 14 rfl rfl, by decide +kernel, by decide⟩
set_option maxRecDepth 10000 in
theorem gmf_J7_fill_53178 : gMF mJ7_fill_53178 2 := ⟨gmt5 102 rfl rfl, gmt1 14 rfl rfl, by decide +kernel, by decide⟩
set_option maxRecDepth 10000 in
theorem gmf_J3_checkIndex_8e157 : gMF mJ3_checkIndex_8e157 3 := ⟨gmt3 127 rfl rfl, gmt1 18 rfl rfl, by decide +kernel, by decide⟩
set_option maxRecDepth 10000 in
theorem gk_RX11_32 : gIL RX11 32 mX5_init := ⟨gmt1 170 rfl rfl, gmt1 171 rfl rfl, rfl⟩
set_option maxRecDepth 10000 in
theorem gk_RX11_41 : gIL RX11 41 mX4_init := ⟨gmt1 216 rfl rfl, gmt1 217 rfl rfl, rfl⟩
set_option maxRecDepth 10000 in
theorem gk_RX11_48 : gIL RX11 48 mX9_init := ⟨gmt2 4 rfl rfl, gmt2 5 rfl rfl, rfl⟩
set_option maxRecDepth 10000 in
theorem gk_RX11_59 : gIL RX11 59 mX1_init := ⟨gmt2 56 rfl rfl, gmt2 57 rfl rfl, rfl⟩
set_option maxRecDepth 10000 in
theorem gk_RX11_71 : gVL RX11 71 mX5_open := ⟨gmt2 156 rfl rfl, gmt2 157 rfl rfl, gmt2 158 rfl rfl⟩
set_option maxRecDepth 10000 in
theorem gk_RX11_78 : gVL RX11 78 mX11_refuse := ⟨gmt3 61 rfl rfl, gmt3 63 rfl rfl, gmp1 5 rfl⟩
set_option maxRecDepth 10000 in
theorem gk_RX11_82 : gVL RX11 82 mX10_append := ⟨gmt3 65 rfl rfl, gmt3 66 rfl rfl, gmt3 67 rfl rfl⟩
set_option maxRecDepth 10000 in
theorem gk_RX11_86 : gVL RX11 86 mX11_deny := ⟨gmt3 73 rfl rfl, gmt3 75 rfl rfl, gmp1 6 rfl⟩
set_option maxRecDepth 10000 in
theorem gk_RX11_90 : gVL RX11 90 mX6_read := ⟨gmt3 81 rfl rfl, gmt3 82 rfl rfl, gmt3 83 rfl rfl⟩
set_option maxRecDepth 10000 in
theorem gk_RX11_97 : gVL RX11 97 mX4_clear := ⟨gmt4 78 rfl rfl, gmt4 79 rfl rfl, gmt4 80 rfl rfl⟩
set_option maxRecDepth 10000 in
theorem gk_RX11_100 : gVL RX11 100 mX9_clear := ⟨gmt4 82 rfl rfl, gmt4 83 rfl rfl, gmt4 84 rfl rfl⟩
set_option maxRecDepth 10000 in
theorem gk_RX11_110 : gVL RX11 110 mX5_marked := ⟨gmt4 94 rfl rfl, gmt4 95 rfl rfl, gmt4 96 rfl rfl⟩
set_option maxRecDepth 10000 in
theorem gk_RX11_115 : gVL RX11 115 mX1_isWhat := ⟨gmt4 108 rfl rfl, gmt3 180 rfl rfl, gmt3 181 rfl rfl⟩
set_option maxRecDepth 10000 in
theorem gk_RX11_118 : gVL RX11 118 mX1_letterOf := ⟨gmt4 109 rfl rfl, gmt4 110 rfl rfl, gmt4 111 rfl rfl⟩
set_option maxRecDepth 10000 in
theorem gk_RX11_122 : gVL RX11 122 mX1_ruleAt := ⟨gmt4 117 rfl rfl, gmt2 169 rfl rfl, gmt2 170 rfl rfl⟩
set_option maxRecDepth 10000 in
theorem gk_RX11_126 : gVL RX11 126 mX8_tell := ⟨gmt4 118 rfl rfl, gmt4 119 rfl rfl, gmt4 120 rfl rfl⟩
set_option maxRecDepth 10000 in
theorem gk_RX11_131 : gSL RX11 131 mX0_monthLengthOf := ⟨gmt4 126 rfl rfl, gmt3 212 rfl rfl⟩
set_option maxRecDepth 10000 in
theorem gk_RX11_136 : gSL RX11 136 mX0_firstOfMonth := ⟨gmt4 127 rfl rfl, gmt2 205 rfl rfl⟩
set_option maxRecDepth 10000 in
theorem gk_RX11_139 : gSL RX11 139 mX11_isDay := ⟨gmt4 132 rfl rfl, gmt2 219 rfl rfl⟩
set_option maxRecDepth 10000 in
theorem gk_RX11_142 : gVL RX11 142 mX3_calendarOf := ⟨gmt4 133 rfl rfl, gmt4 134 rfl rfl, gmt4 135 rfl rfl⟩
set_option maxRecDepth 10000 in
theorem gk_RX11_145 : gVL RX11 145 mX5_daysOf := ⟨gmt4 141 rfl rfl, gmt4 142 rfl rfl, gmt4 143 rfl rfl⟩
set_option maxRecDepth 10000 in
theorem gk_RX11_149 : gVL RX11 149 mX2_holds := ⟨gmt4 234 rfl rfl, gmt4 235 rfl rfl, gmt4 236 rfl rfl⟩
set_option maxRecDepth 10000 in
theorem gk_RX11_154 : gVL RX11 154 mX2_firstFrom := ⟨gmt5 2 rfl rfl, gmt5 3 rfl rfl, gmt5 4 rfl rfl⟩
set_option maxRecDepth 10000 in
theorem gk_RX11_157 : gVL RX11 157 mX2_lastUpTo := ⟨gmt5 10 rfl rfl, gmt5 11 rfl rfl, gmt5 12 rfl rfl⟩
set_option maxRecDepth 10000 in
theorem gk_RX11_160 : gVL RX11 160 mX2_between := ⟨gmt5 18 rfl rfl, gmt5 19 rfl rfl, gmt5 20 rfl rfl⟩
set_option maxRecDepth 10000 in
theorem gk_RX11_163 : gVL RX11 163 mX2_atPlace := ⟨gmt5 22 rfl rfl, gmt5 23 rfl rfl, gmt5 24 rfl rfl⟩
set_option maxRecDepth 10000 in
theorem gk_RX11_166 : gVL RX11 166 mX2_firstMissingFrom := ⟨gmt5 38 rfl rfl, gmt5 39 rfl rfl, gmt5 40 rfl rfl⟩
set_option maxRecDepth 10000 in
theorem gk_RX11_169 : gVL RX11 169 mX2_search := ⟨gmt5 46 rfl rfl, gmt4 201 rfl rfl, gmt4 202 rfl rfl⟩
set_option maxRecDepth 10000 in
theorem gk_RX11_173 : gSL RX11 173 mX0_weekdayOf := ⟨gmt5 51 rfl rfl, gmt2 222 rfl rfl⟩
set_option maxRecDepth 10000 in
theorem gk_RX11_176 : gSL RX11 176 mX0_monthOf := ⟨gmt5 52 rfl rfl, gmt2 183 rfl rfl⟩
set_option maxRecDepth 10000 in
theorem gk_RX11_182 : gSL RX11 182 mX0_periodOf := ⟨gmt5 57 rfl rfl, gmt2 177 rfl rfl⟩
set_option maxRecDepth 10000 in
theorem gk_RX11_185 : gVL RX11 185 mX8_goesBy := ⟨gmt5 58 rfl rfl, gmt5 59 rfl rfl, gmt5 60 rfl rfl⟩
set_option maxRecDepth 10000 in
theorem gk_RX11_188 : gVL RX11 188 mX3_gather := ⟨gmt5 63 rfl rfl, gmt2 208 rfl rfl, gmt2 209 rfl rfl⟩
set_option maxRecDepth 10000 in
theorem gk_RX11_192 : gVL RX11 192 mX3_keepPlaces := ⟨gmt5 64 rfl rfl, gmt3 14 rfl rfl, gmt3 15 rfl rfl⟩
set_option maxRecDepth 10000 in
theorem gk_RX11_199 : gSL RX11 199 mX9_isTold := ⟨gmt5 74 rfl rfl, gmt5 75 rfl rfl⟩
set_option maxRecDepth 10000 in
theorem gk_RX11_203 : gVL RX11 203 mX9_take := ⟨gmt5 85 rfl rfl, gmt5 86 rfl rfl, gmt5 87 rfl rfl⟩
set_option maxRecDepth 10000 in
theorem gk_RX11_207 : gVL RX11 207 mX9_workOut := ⟨gmt5 94 rfl rfl, gmt5 95 rfl rfl, gmt5 96 rfl rfl⟩
set_option maxRecDepth 10000 in
theorem gk_RX11_213 : gVL RX11 213 mX9_fitAt := ⟨gmt5 120 rfl rfl, gmt5 121 rfl rfl, gmt5 122 rfl rfl⟩
set_option maxRecDepth 10000 in
theorem gk_RX11_222 : gVL RX11 222 mX11_turn := ⟨gmt5 133 rfl rfl, gmt5 135 rfl rfl, gmp3 7 rfl⟩
set_option maxRecDepth 10000 in
theorem gk_RX11_229 : gVL RX11 229 mX4_openRule := ⟨gmt5 180 rfl rfl, gmt5 162 rfl rfl, gmt5 163 rfl rfl⟩
set_option maxRecDepth 10000 in
theorem gk_RX11_233 : gVL RX11 233 mX5_ruleChanged := ⟨gmt5 181 rfl rfl, gmt2 165 rfl rfl, gmt2 166 rfl rfl⟩
set_option maxRecDepth 10000 in
theorem gk_RX11_239 : gVL RX11 239 mX8_beginAt := ⟨gmt5 186 rfl rfl, gmt3 216 rfl rfl, gmt3 217 rfl rfl⟩
set_option maxRecDepth 10000 in
theorem gk_RX11_242 : gVL RX11 242 mX9_forget := ⟨gmt5 187 rfl rfl, gmt5 188 rfl rfl, gmt5 189 rfl rfl⟩
set_option maxRecDepth 10000 in
theorem gk_RX11_245 : gVL RX11 245 mX4_openMarks := ⟨gmt5 157 rfl rfl, gmt5 158 rfl rfl, gmt5 159 rfl rfl⟩
set_option maxRecDepth 10000 in
theorem gk_RX11_248 : gVL RX11 248 mX4_latestChanges := ⟨gmt5 167 rfl rfl, gmt5 168 rfl rfl, gmt5 169 rfl rfl⟩
set_option maxRecDepth 10000 in
theorem gk_RX11_252 : gVL RX11 252 mX11_draw := ⟨gmt5 195 rfl rfl, gmt5 197 rfl rfl, gmp3 10 rfl⟩
set_option maxRecDepth 10000 in
theorem gk_RX11_255 : gVL RX11 255 mX5_turn := ⟨gmt5 137 rfl rfl, gmt5 138 rfl rfl, gmt5 139 rfl rfl⟩
set_option maxRecDepth 10000 in
theorem gk_RX11_258 : gVL RX11 258 mX7_append := ⟨gmt5 171 rfl rfl, gmt3 239 rfl rfl, gmt4 0 rfl rfl⟩
set_option maxRecDepth 10000 in
theorem gk_RX11_262 : gVL RX11 262 mX4_latestKind := ⟨gmt5 206 rfl rfl, gmt5 207 rfl rfl, gmt5 208 rfl rfl⟩
set_option maxRecDepth 10000 in
theorem gk_RX11_266 : gVL RX11 266 mX5_turnBack := ⟨gmt5 210 rfl rfl, gmt5 211 rfl rfl, gmt5 212 rfl rfl⟩
set_option maxRecDepth 10000 in
theorem gk_RX11_270 : gVL RX11 270 mX11_restoreRule := ⟨gmt5 214 rfl rfl, gmt5 216 rfl rfl, gmp3 11 rfl⟩
set_option maxRecDepth 10000 in
theorem gk_RX11_273 : gVL RX11 273 mX4_drop := ⟨gmt5 226 rfl rfl, gmt5 227 rfl rfl, gmt5 228 rfl rfl⟩
set_option maxRecDepth 10000 in
theorem gk_RX11_276 : gVL RX11 276 mX4_latestRule := ⟨gmt5 218 rfl rfl, gmt5 219 rfl rfl, gmt5 220 rfl rfl⟩
set_option maxRecDepth 10000 in
theorem gk_RX11_279 : gVL RX11 279 mX4_latestBefore := ⟨gmt5 222 rfl rfl, gmt5 223 rfl rfl, gmt5 224 rfl rfl⟩
set_option maxRecDepth 10000 in
theorem gk_RX0_15 : gSL RX0 15 mX0_firstOfYear := ⟨gmt2 185 rfl rfl, gmt2 186 rfl rfl⟩
set_option maxRecDepth 10000 in
theorem gk_RX0_19 : gSL RX0 19 mX0_daysAhead := ⟨gmt2 188 rfl rfl, gmt2 189 rfl rfl⟩
set_option maxRecDepth 10000 in
theorem gk_RX0_23 : gSL RX0 23 mX0_yearOf := ⟨gmt2 179 rfl rfl, gmt2 180 rfl rfl⟩
set_option maxRecDepth 10000 in
theorem gk_RX0_26 : gSL RX0 26 mX0_monthOf := ⟨gmt2 182 rfl rfl, gmt2 183 rfl rfl⟩
set_option maxRecDepth 10000 in
theorem gk_RX0_29 : gSL RX0 29 mJ9_max_7cf53 := ⟨gmt2 203 rfl rfl, gmt1 61 rfl rfl⟩
set_option maxRecDepth 10000 in
theorem gk_RX0_34 : gSL RX0 34 mX0_firstOfMonth := ⟨gmt2 204 rfl rfl, gmt2 205 rfl rfl⟩
set_option maxRecDepth 10000 in
theorem gk_RX0_45 : gSL RX0 45 mX0_weekdayOf := ⟨gmt2 221 rfl rfl, gmt2 222 rfl rfl⟩
set_option maxRecDepth 10000 in
theorem gk_RX0_69 : gVL RX0 69 mX0_moveTo := ⟨gmt3 12 rfl rfl, gmt2 215 rfl rfl, gmt2 216 rfl rfl⟩
set_option maxRecDepth 10000 in
theorem gk_RX1_38 : gSL RX1 38 mJ9_min_7cf53 := ⟨gmt3 187 rfl rfl, gmt2 212 rfl rfl⟩
set_option maxRecDepth 10000 in
theorem gk_RX1_44 : gVL RX1 44 mX1_isWhat := ⟨gmt3 179 rfl rfl, gmt3 180 rfl rfl, gmt3 181 rfl rfl⟩
set_option maxRecDepth 10000 in
theorem gk_RX2_15 : gSL RX2 15 mJ7_fill_d0a16 := ⟨gmt2 197 rfl rfl, gmt2 198 rfl rfl⟩
set_option maxRecDepth 10000 in
theorem gk_RX2_33 : gVL RX2 33 mX2_word := ⟨gmt4 187 rfl rfl, gmt4 189 rfl rfl, gmp3 2 rfl⟩
set_option maxRecDepth 10000 in
theorem gk_RX2_39 : gVL RX2 39 mX2_search := ⟨gmt4 200 rfl rfl, gmt4 201 rfl rfl, gmt4 202 rfl rfl⟩
set_option maxRecDepth 10000 in
theorem gk_RX2_43 : gVL RX2 43 mX2_put := ⟨gmt4 211 rfl rfl, gmt3 22 rfl rfl, gmt3 23 rfl rfl⟩
set_option maxRecDepth 10000 in
theorem gk_RX2_47 : gVL RX2 47 mX2_without := ⟨gmt4 212 rfl rfl, gmt4 213 rfl rfl, gmt4 214 rfl rfl⟩
set_option maxRecDepth 10000 in
theorem gk_RX2_51 : gSL RX2 51 mJ13_bitCount_95d88 := ⟨gmt4 205 rfl rfl, gmt4 206 rfl rfl⟩
set_option maxRecDepth 10000 in
theorem gk_RX3_22 : gVL RX3 22 mX0_moveTo := ⟨gmt2 214 rfl rfl, gmt2 215 rfl rfl, gmt2 216 rfl rfl⟩
set_option maxRecDepth 10000 in
theorem gk_RX3_50 : gSL RX3 50 mX0_firstOfPeriod := ⟨gmt2 200 rfl rfl, gmt2 201 rfl rfl⟩
set_option maxRecDepth 10000 in
theorem gk_RX3_54 : gSL RX3 54 mJ9_min_7cf53 := ⟨gmt2 211 rfl rfl, gmt2 212 rfl rfl⟩
set_option maxRecDepth 10000 in
theorem gk_RX3_62 : gVL RX3 62 mX8_counts := ⟨gmt2 224 rfl rfl, gmt2 225 rfl rfl, gmt2 226 rfl rfl⟩
set_option maxRecDepth 10000 in
theorem gk_RX3_66 : gVL RX3 66 mX0_forward := ⟨gmt3 8 rfl rfl, gmt3 9 rfl rfl, gmt3 10 rfl rfl⟩
set_option maxRecDepth 10000 in
theorem gk_RX3_76 : gVL RX3 76 mX7_indexOf := ⟨gmt3 17 rfl rfl, gmt3 18 rfl rfl, gmt3 19 rfl rfl⟩
set_option maxRecDepth 10000 in
theorem gk_RX3_89 : gSL RX3 89 mX0_periodOf := ⟨gmt2 176 rfl rfl, gmt2 177 rfl rfl⟩
set_option maxRecDepth 10000 in
theorem gk_RX3_92 : gVL RX3 92 mX2_clear := ⟨gmt2 193 rfl rfl, gmt2 194 rfl rfl, gmt2 195 rfl rfl⟩
set_option maxRecDepth 10000 in
theorem gk_RX3_97 : gVL RX3 97 mX3_gather := ⟨gmt2 207 rfl rfl, gmt2 208 rfl rfl, gmt2 209 rfl rfl⟩
set_option maxRecDepth 10000 in
theorem gk_RX3_101 : gVL RX3 101 mX3_keepPlaces := ⟨gmt3 13 rfl rfl, gmt3 14 rfl rfl, gmt3 15 rfl rfl⟩
set_option maxRecDepth 10000 in
theorem gk_RX3_105 : gVL RX3 105 mX2_put := ⟨gmt3 21 rfl rfl, gmt3 22 rfl rfl, gmt3 23 rfl rfl⟩
set_option maxRecDepth 10000 in
theorem gk_RX4_27 : gIL RX4 27 mX7_init := ⟨gmt1 221 rfl rfl, gmt1 57 rfl rfl, rfl⟩
set_option maxRecDepth 10000 in
theorem gk_RX4_34 : gVL RX4 34 mX4_openRule := ⟨gmt5 161 rfl rfl, gmt5 162 rfl rfl, gmt5 163 rfl rfl⟩
set_option maxRecDepth 10000 in
theorem gk_RX4_41 : gSL RX4 41 mJ9_min_7cf53 := ⟨gmt5 165 rfl rfl, gmt2 212 rfl rfl⟩
set_option maxRecDepth 10000 in
theorem gk_RX4_47 : gVL RX4 47 mX7_clear := ⟨gmt5 166 rfl rfl, gmt2 161 rfl rfl, gmt2 162 rfl rfl⟩
set_option maxRecDepth 10000 in
theorem gk_RX4_50 : gSL RX4 50 mJ9_max_7cf53 := ⟨gmt5 230 rfl rfl, gmt1 61 rfl rfl⟩
set_option maxRecDepth 10000 in
theorem gk_RX5_34 : gIL RX5 34 mX7_init := ⟨gmt1 188 rfl rfl, gmt1 57 rfl rfl, rfl⟩
set_option maxRecDepth 10000 in
theorem gk_RX5_41 : gVL RX5 41 mX7_clear := ⟨gmt2 160 rfl rfl, gmt2 161 rfl rfl, gmt2 162 rfl rfl⟩
set_option maxRecDepth 10000 in
theorem gk_RX5_50 : gVL RX5 50 mX5_ruleChanged := ⟨gmt2 164 rfl rfl, gmt2 165 rfl rfl, gmt2 166 rfl rfl⟩
set_option maxRecDepth 10000 in
theorem gk_RX5_56 : gVL RX5 56 mX1_ruleAt := ⟨gmt2 168 rfl rfl, gmt2 169 rfl rfl, gmt2 170 rfl rfl⟩
set_option maxRecDepth 10000 in
theorem gk_RX5_65 : gVL RX5 65 mX3_fill := ⟨gmt2 172 rfl rfl, gmt2 173 rfl rfl, gmt2 174 rfl rfl⟩
set_option maxRecDepth 10000 in
theorem gk_RX5_71 : gVL RX5 71 mX1_isWhat := ⟨gmt4 145 rfl rfl, gmt3 180 rfl rfl, gmt3 181 rfl rfl⟩
set_option maxRecDepth 10000 in
theorem gk_RX5_75 : gVL RX5 75 mX5_putTogether := ⟨gmt4 146 rfl rfl, gmt4 148 rfl rfl, gmp2 15 rfl⟩
set_option maxRecDepth 10000 in
theorem gk_RX5_78 : gVL RX5 78 mX5_rowOf := ⟨gmt4 98 rfl rfl, gmt4 100 rfl rfl, gmp2 14 rfl⟩
set_option maxRecDepth 10000 in
theorem gk_RX5_88 : gVL RX5 88 mX5_markOf := ⟨gmt5 142 rfl rfl, gmt5 144 rfl rfl, gmp3 8 rfl⟩
set_option maxRecDepth 10000 in
theorem gk_RX5_92 : gVL RX5 92 mX5_mark := ⟨gmt5 147 rfl rfl, gmt5 149 rfl rfl, gmp3 9 rfl⟩
set_option maxRecDepth 10000 in
theorem gk_RX5_96 : gVL RX5 96 mX7_valueAt := ⟨gmt4 229 rfl rfl, gmt4 11 rfl rfl, gmt4 12 rfl rfl⟩
set_option maxRecDepth 10000 in
theorem gk_RX5_100 : gVL RX5 100 mX7_indexOf := ⟨gmt5 146 rfl rfl, gmt3 18 rfl rfl, gmt3 19 rfl rfl⟩
set_option maxRecDepth 10000 in
theorem gk_RX5_103 : gVL RX5 103 mX7_remove := ⟨gmt5 151 rfl rfl, gmt5 152 rfl rfl, gmt5 153 rfl rfl⟩
set_option maxRecDepth 10000 in
theorem gk_RX5_106 : gVL RX5 106 mX7_append := ⟨gmt5 156 rfl rfl, gmt3 239 rfl rfl, gmt4 0 rfl rfl⟩
set_option maxRecDepth 10000 in
theorem gk_RX5_109 : gSL RX5 109 mJ9_min_7cf53 := ⟨gmt4 102 rfl rfl, gmt2 212 rfl rfl⟩
set_option maxRecDepth 10000 in
theorem gk_RX5_114 : gSL RX5 114 mJ9_max_7cf53 := ⟨gmt4 103 rfl rfl, gmt1 61 rfl rfl⟩
set_option maxRecDepth 10000 in
theorem gk_RX5_120 : gVL RX5 120 mX1_codeStart := ⟨gmt4 150 rfl rfl, gmt4 151 rfl rfl, gmt4 152 rfl rfl⟩
set_option maxRecDepth 10000 in
theorem gk_RX5_123 : gVL RX5 123 mX1_codeEnd := ⟨gmt4 154 rfl rfl, gmt4 155 rfl rfl, gmt4 156 rfl rfl⟩
set_option maxRecDepth 10000 in
theorem gk_RX5_126 : gVL RX5 126 mX1_opAt := ⟨gmt4 158 rfl rfl, gmt4 159 rfl rfl, gmt4 160 rfl rfl⟩
set_option maxRecDepth 10000 in
theorem gk_RX5_129 : gVL RX5 129 mX1_argumentAt := ⟨gmt4 162 rfl rfl, gmt4 163 rfl rfl, gmt4 164 rfl rfl⟩
set_option maxRecDepth 10000 in
theorem gk_RX5_132 : gVL RX5 132 mX5_perform := ⟨gmt4 166 rfl rfl, gmt4 168 rfl rfl, gmp3 0 rfl⟩
set_option maxRecDepth 10000 in
theorem gk_RX5_136 : gVL RX5 136 mX2_copy := ⟨gmt4 175 rfl rfl, gmt4 176 rfl rfl, gmt4 177 rfl rfl⟩
set_option maxRecDepth 10000 in
theorem gk_RX5_140 : gVL RX5 140 mX2_put := ⟨gmt4 182 rfl rfl, gmt3 22 rfl rfl, gmt3 23 rfl rfl⟩
set_option maxRecDepth 10000 in
theorem gk_RX5_143 : gVL RX5 143 mX2_take := ⟨gmt4 230 rfl rfl, gmt4 231 rfl rfl, gmt4 232 rfl rfl⟩
set_option maxRecDepth 10000 in
theorem gk_RX5_146 : gVL RX5 146 mX5_lay := ⟨gmt4 170 rfl rfl, gmt4 172 rfl rfl, gmp3 1 rfl⟩
set_option maxRecDepth 10000 in
theorem gk_RX5_149 : gVL RX5 149 mX2_shiftLater := ⟨gmt4 183 rfl rfl, gmt4 184 rfl rfl, gmt4 185 rfl rfl⟩
set_option maxRecDepth 10000 in
theorem gk_RX5_152 : gVL RX5 152 mX2_shiftSooner := ⟨gmt4 192 rfl rfl, gmt4 193 rfl rfl, gmt4 194 rfl rfl⟩
set_option maxRecDepth 10000 in
theorem gk_RX5_155 : gVL RX5 155 mX2_moveOff := ⟨gmt4 196 rfl rfl, gmt4 197 rfl rfl, gmt4 198 rfl rfl⟩
set_option maxRecDepth 10000 in
theorem gk_RX5_158 : gVL RX5 158 mX5_join := ⟨gmt4 216 rfl rfl, gmt4 218 rfl rfl, gmp3 3 rfl⟩
set_option maxRecDepth 10000 in
theorem gk_RX5_162 : gVL RX5 162 mX2_clear := ⟨gmt4 174 rfl rfl, gmt2 194 rfl rfl, gmt2 195 rfl rfl⟩
set_option maxRecDepth 10000 in
theorem gk_RX5_163 : gVL RX5 163 mX2_unite := ⟨gmt4 220 rfl rfl, gmt4 221 rfl rfl, gmt4 222 rfl rfl⟩
set_option maxRecDepth 10000 in
theorem gk_RX5_166 : gVL RX5 166 mX2_limit := ⟨gmt4 224 rfl rfl, gmt4 225 rfl rfl, gmt4 226 rfl rfl⟩
set_option maxRecDepth 10000 in
theorem gk_RX5_169 : gVL RX5 169 mX2_without := ⟨gmt4 228 rfl rfl, gmt4 213 rfl rfl, gmt4 214 rfl rfl⟩
set_option maxRecDepth 10000 in
theorem gk_RX6_21 : gIL RX6 21 mX7_init := ⟨gmt1 56 rfl rfl, gmt1 57 rfl rfl, rfl⟩
set_option maxRecDepth 10000 in
theorem gk_RX6_36 : gSL RX6 36 mJ9_min_7cf53 := ⟨gmt3 85 rfl rfl, gmt2 212 rfl rfl⟩
set_option maxRecDepth 10000 in
theorem gk_RX6_49 : gVL RX6 49 mX1_clear := ⟨gmt3 86 rfl rfl, gmt3 87 rfl rfl, gmt3 88 rfl rfl⟩
set_option maxRecDepth 10000 in
theorem gk_RX6_63 : gVL RX6 63 mX6_advance := ⟨gmt3 90 rfl rfl, gmt3 92 rfl rfl, gmp1 7 rfl⟩
set_option maxRecDepth 10000 in
theorem gk_RX6_68 : gVL RX6 68 mX6_isWord := ⟨gmt3 95 rfl rfl, gmt3 97 rfl rfl, gmp1 8 rfl⟩
set_option maxRecDepth 10000 in
theorem gk_RX6_72 : gVL RX6 72 mX6_ruleText := ⟨gmt3 147 rfl rfl, gmt3 149 rfl rfl, gmp1 9 rfl⟩
set_option maxRecDepth 10000 in
theorem gk_RX6_77 : gVL RX6 77 mX6_setText := ⟨gmt4 34 rfl rfl, gmt4 36 rfl rfl, gmp2 7 rfl⟩
set_option maxRecDepth 10000 in
theorem gk_RX6_83 : gVL RX6 83 mX6_refuse := ⟨gmt3 151 rfl rfl, gmt3 153 rfl rfl, gmp1 10 rfl⟩
set_option maxRecDepth 10000 in
theorem gk_RX6_87 : gVL RX6 87 mX6_isSign := ⟨gmt3 207 rfl rfl, gmt3 209 rfl rfl, gmp2 2 rfl⟩
set_option maxRecDepth 10000 in
theorem gk_RX6_91 : gVL RX6 91 mX6_pass := ⟨gmt3 194 rfl rfl, gmt3 196 rfl rfl, gmp1 15 rfl⟩
set_option maxRecDepth 10000 in
theorem gk_RX6_98 : gVL RX6 98 mX6_newName := ⟨gmt3 155 rfl rfl, gmt3 157 rfl rfl, gmp1 11 rfl⟩
set_option maxRecDepth 10000 in
theorem gk_RX6_102 : gVL RX6 102 mX1_openRule := ⟨gmt3 183 rfl rfl, gmt3 184 rfl rfl, gmt3 185 rfl rfl⟩
set_option maxRecDepth 10000 in
theorem gk_RX6_106 : gVL RX6 106 mX8_clearParts := ⟨gmt3 188 rfl rfl, gmt3 189 rfl rfl, gmt3 190 rfl rfl⟩
set_option maxRecDepth 10000 in
theorem gk_RX6_113 : gVL RX6 113 mX6_number := ⟨gmt3 198 rfl rfl, gmt3 200 rfl rfl, gmp2 0 rfl⟩
set_option maxRecDepth 10000 in
theorem gk_RX6_121 : gVL RX6 121 mX6_wordAmong := ⟨gmt3 168 rfl rfl, gmt3 170 rfl rfl, gmp1 14 rfl⟩
set_option maxRecDepth 10000 in
theorem gk_RX6_130 : gVL RX6 130 mX6_dateText := ⟨gmt3 203 rfl rfl, gmt3 205 rfl rfl, gmp2 1 rfl⟩
set_option maxRecDepth 10000 in
theorem gk_RX6_133 : gVL RX6 133 mX8_beginAt := ⟨gmt3 215 rfl rfl, gmt3 216 rfl rfl, gmt3 217 rfl rfl⟩
set_option maxRecDepth 10000 in
theorem gk_RX6_138 : gVL RX6 138 mX6_partText := ⟨gmt3 223 rfl rfl, gmt3 225 rfl rfl, gmp2 3 rfl⟩
set_option maxRecDepth 10000 in
theorem gk_RX6_142 : gVL RX6 142 mX1_closeRule := ⟨gmt4 29 rfl rfl, gmt4 30 rfl rfl, gmt4 31 rfl rfl⟩
set_option maxRecDepth 10000 in
theorem gk_RX6_151 : gVL RX6 151 mX6_rowText := ⟨gmt3 227 rfl rfl, gmt3 229 rfl rfl, gmp2 4 rfl⟩
set_option maxRecDepth 10000 in
theorem gk_RX6_154 : gVL RX6 154 mX8_tellMonths := ⟨gmt4 6 rfl rfl, gmt4 7 rfl rfl, gmt4 8 rfl rfl⟩
set_option maxRecDepth 10000 in
theorem gk_RX6_158 : gVL RX6 158 mX8_tellDates := ⟨gmt4 14 rfl rfl, gmt4 15 rfl rfl, gmt4 16 rfl rfl⟩
set_option maxRecDepth 10000 in
theorem gk_RX6_161 : gVL RX6 161 mX8_tellWeekdays := ⟨gmt4 18 rfl rfl, gmt4 19 rfl rfl, gmt4 20 rfl rfl⟩
set_option maxRecDepth 10000 in
theorem gk_RX6_167 : gVL RX6 167 mX7_copy := ⟨gmt4 28 rfl rfl, gmt4 23 rfl rfl, gmt4 24 rfl rfl⟩
set_option maxRecDepth 10000 in
theorem gk_RX6_170 : gVL RX6 170 mX7_clear := ⟨gmt3 231 rfl rfl, gmt2 161 rfl rfl, gmt2 162 rfl rfl⟩
set_option maxRecDepth 10000 in
theorem gk_RX6_171 : gVL RX6 171 mX6_member := ⟨gmt3 232 rfl rfl, gmt3 234 rfl rfl, gmp2 5 rfl⟩
set_option maxRecDepth 10000 in
theorem gk_RX6_174 : gVL RX6 174 mX7_indexOf := ⟨gmt3 237 rfl rfl, gmt3 18 rfl rfl, gmt3 19 rfl rfl⟩
set_option maxRecDepth 10000 in
theorem gk_RX6_178 : gVL RX6 178 mX7_append := ⟨gmt3 238 rfl rfl, gmt3 239 rfl rfl, gmt4 0 rfl rfl⟩
set_option maxRecDepth 10000 in
theorem gk_RX6_181 : gVL RX6 181 mX6_nextInRow := ⟨gmt4 2 rfl rfl, gmt4 4 rfl rfl, gmp2 6 rfl⟩
set_option maxRecDepth 10000 in
theorem gk_RX6_188 : gSL RX6 188 mJ9_max_7cf53 := ⟨gmt3 236 rfl rfl, gmt1 61 rfl rfl⟩
set_option maxRecDepth 10000 in
theorem gk_RX6_196 : gVL RX6 196 mX6_sumText := ⟨gmt4 39 rfl rfl, gmt4 41 rfl rfl, gmp2 8 rfl⟩
set_option maxRecDepth 10000 in
theorem gk_RX6_199 : gVL RX6 199 mX1_closeSet := ⟨gmt4 74 rfl rfl, gmt4 75 rfl rfl, gmt4 76 rfl rfl⟩
set_option maxRecDepth 10000 in
theorem gk_RX6_202 : gVL RX6 202 mX6_bothText := ⟨gmt4 43 rfl rfl, gmt4 45 rfl rfl, gmp2 9 rfl⟩
set_option maxRecDepth 10000 in
theorem gk_RX6_207 : gVL RX6 207 mX1_append := ⟨gmt4 60 rfl rfl, gmt4 61 rfl rfl, gmt4 62 rfl rfl⟩
set_option maxRecDepth 10000 in
theorem gk_RX6_209 : gVL RX6 209 mX6_oneText := ⟨gmt4 47 rfl rfl, gmt4 49 rfl rfl, gmp2 10 rfl⟩
set_option maxRecDepth 10000 in
theorem gk_RX6_216 : gVL RX6 216 mX6_firstText := ⟨gmt4 51 rfl rfl, gmt4 53 rfl rfl, gmp2 11 rfl⟩
set_option maxRecDepth 10000 in
theorem gk_RX6_225 : gVL RX6 225 mX6_knownName := ⟨gmt4 64 rfl rfl, gmt4 66 rfl rfl, gmp2 13 rfl⟩
set_option maxRecDepth 10000 in
theorem gk_RX6_230 : gVL RX6 230 mX6_daysText := ⟨gmt4 56 rfl rfl, gmt4 58 rfl rfl, gmp2 12 rfl⟩
set_option maxRecDepth 10000 in
theorem gk_RX6_233 : gSL RX6 233 mX0_monthLengthOf := ⟨gmt3 211 rfl rfl, gmt3 212 rfl rfl⟩
set_option maxRecDepth 10000 in
theorem gk_RX6_238 : gSL RX6 238 mX0_firstOfMonth := ⟨gmt3 214 rfl rfl, gmt2 205 rfl rfl⟩
set_option maxRecDepth 10000 in
theorem gk_RX6_241 : gVL RX6 241 mX6_name := ⟨gmt3 159 rfl rfl, gmt3 161 rfl rfl, gmp1 12 rfl⟩
set_option maxRecDepth 10000 in
theorem gk_RX6_244 : gVL RX6 244 mX1_find := ⟨gmt3 175 rfl rfl, gmt3 176 rfl rfl, gmt3 177 rfl rfl⟩
set_option maxRecDepth 10000 in
theorem gk_RX6_247 : gVL RX6 247 mX6_isOwnWord := ⟨gmt3 163 rfl rfl, gmt3 165 rfl rfl, gmp1 13 rfl⟩
set_option maxRecDepth 10000 in
theorem gk_RX6_252 : gVL RX6 252 mJ0_length_8abf5 := ⟨gmt3 99 rfl rfl, gmt3 100 rfl rfl, gmt3 101 rfl rfl⟩
set_option maxRecDepth 10000 in
theorem gk_RX6_256 : gVL RX6 256 mJ0_charAt_5068e := ⟨gmt3 109 rfl rfl, gmt3 110 rfl rfl, gmt3 111 rfl rfl⟩
set_option maxRecDepth 10000 in
theorem gk_RX7_9 : gSL RX7 9 mJ9_max_7cf53 := ⟨gmt1 60 rfl rfl, gmt1 61 rfl rfl⟩
set_option maxRecDepth 10000 in
theorem gk_RX7_25 : gVL RX7 25 mX7_indexOf := ⟨gmt5 155 rfl rfl, gmt3 18 rfl rfl, gmt3 19 rfl rfl⟩
set_option maxRecDepth 10000 in
theorem gk_RX7_29 : gVL RX7 29 mX7_valueAt := ⟨gmt4 26 rfl rfl, gmt4 11 rfl rfl, gmt4 12 rfl rfl⟩
set_option maxRecDepth 10000 in
theorem gk_RX7_32 : gVL RX7 32 mX7_append := ⟨gmt4 27 rfl rfl, gmt3 239 rfl rfl, gmt4 0 rfl rfl⟩
set_option maxRecDepth 10000 in
theorem gk_RX8_11 : gIL RX8 11 mX7_init := ⟨gmt2 68 rfl rfl, gmt1 57 rfl rfl, rfl⟩
set_option maxRecDepth 10000 in
theorem gk_RX8_39 : gVL RX8 39 mX7_clear := ⟨gmt3 192 rfl rfl, gmt2 161 rfl rfl, gmt2 162 rfl rfl⟩
set_option maxRecDepth 10000 in
theorem gk_RX8_48 : gSL RX8 48 mX0_yearOf := ⟨gmt3 219 rfl rfl, gmt2 180 rfl rfl⟩
set_option maxRecDepth 10000 in
theorem gk_RX8_57 : gSL RX8 57 mX0_monthOf := ⟨gmt3 220 rfl rfl, gmt2 183 rfl rfl⟩
set_option maxRecDepth 10000 in
theorem gk_RX8_63 : gSL RX8 63 mX0_firstOfMonth := ⟨gmt3 221 rfl rfl, gmt2 205 rfl rfl⟩
set_option maxRecDepth 10000 in
theorem gk_RX8_70 : gSL RX8 70 mX0_weekdayOf := ⟨gmt3 222 rfl rfl, gmt2 222 rfl rfl⟩
set_option maxRecDepth 10000 in
theorem gk_RX8_79 : gVL RX8 79 mX7_valueAt := ⟨gmt4 10 rfl rfl, gmt4 11 rfl rfl, gmt4 12 rfl rfl⟩
set_option maxRecDepth 10000 in
theorem gk_RX8_82 : gVL RX8 82 mX7_copy := ⟨gmt4 22 rfl rfl, gmt4 23 rfl rfl, gmt4 24 rfl rfl⟩
set_option maxRecDepth 10000 in
theorem gk_RX8_92 : gSL RX8 92 mX0_periodOf := ⟨gmt5 62 rfl rfl, gmt2 177 rfl rfl⟩
set_option maxRecDepth 10000 in
theorem gk_RX8_98 : gVL RX8 98 mX8_dateTold := ⟨gmt2 228 rfl rfl, gmt2 230 rfl rfl, gmp1 0 rfl⟩
set_option maxRecDepth 10000 in
theorem gk_RX8_102 : gVL RX8 102 mX8_weekdayTold := ⟨gmt2 232 rfl rfl, gmt2 234 rfl rfl, gmp1 1 rfl⟩
set_option maxRecDepth 10000 in
theorem gk_RX8_108 : gVL RX8 108 mX8_countsInMonth := ⟨gmt2 236 rfl rfl, gmt2 238 rfl rfl, gmp1 2 rfl⟩
set_option maxRecDepth 10000 in
theorem gk_RX8_111 : gVL RX8 111 mX8_countsInYear := ⟨gmt3 4 rfl rfl, gmt3 6 rfl rfl, gmp1 4 rfl⟩
set_option maxRecDepth 10000 in
theorem gk_RX8_120 : gVL RX8 120 mX8_placeTold := ⟨gmt3 0 rfl rfl, gmt3 2 rfl rfl, gmp1 3 rfl⟩
set_option maxRecDepth 10000 in
theorem gk_RX9_31 : gIL RX9 31 mX7_init := ⟨gmt2 11 rfl rfl, gmt1 57 rfl rfl, rfl⟩
set_option maxRecDepth 10000 in
theorem gk_RX9_48 : gSL RX9 48 mX9_dayAt := ⟨gmt5 77 rfl rfl, gmt5 78 rfl rfl⟩
set_option maxRecDepth 10000 in
theorem gk_RX9_56 : gVL RX9 56 mX10_byteAt := ⟨gmt5 80 rfl rfl, gmt5 81 rfl rfl, gmt5 82 rfl rfl⟩
set_option maxRecDepth 10000 in
theorem gk_RX9_64 : gSL RX9 64 mJ9_min_7cf53 := ⟨gmt5 89 rfl rfl, gmt2 212 rfl rfl⟩
set_option maxRecDepth 10000 in
theorem gk_RX9_76 : gVL RX9 76 mX7_valueAt := ⟨gmt5 124 rfl rfl, gmt4 11 rfl rfl, gmt4 12 rfl rfl⟩
set_option maxRecDepth 10000 in
theorem gk_RX9_79 : gSL RX9 79 mX0_yearOf := ⟨gmt5 98 rfl rfl, gmt2 180 rfl rfl⟩
set_option maxRecDepth 10000 in
theorem gk_RX9_84 : gSL RX9 84 mX0_firstOfYear := ⟨gmt5 99 rfl rfl, gmt2 186 rfl rfl⟩
set_option maxRecDepth 10000 in
theorem gk_RX9_87 : gSL RX9 87 mJ7_fill_53178 := ⟨gmt5 100 rfl rfl, gmt5 101 rfl rfl⟩
set_option maxRecDepth 10000 in
theorem gk_RX9_93 : gVL RX9 93 mX7_clear := ⟨gmt5 103 rfl rfl, gmt2 161 rfl rfl, gmt2 162 rfl rfl⟩
set_option maxRecDepth 10000 in
theorem gk_RX9_96 : gVL RX9 96 mX3_fill := ⟨gmt5 104 rfl rfl, gmt2 173 rfl rfl, gmt2 174 rfl rfl⟩
set_option maxRecDepth 10000 in
theorem gk_RX9_101 : gVL RX9 101 mX9_isSo := ⟨gmt5 105 rfl rfl, gmt5 107 rfl rfl, gmp3 4 rfl⟩
set_option maxRecDepth 10000 in
theorem gk_RX9_105 : gVL RX9 105 mX7_append := ⟨gmt5 110 rfl rfl, gmt3 239 rfl rfl, gmt4 0 rfl rfl⟩
set_option maxRecDepth 10000 in
theorem gk_RX9_108 : gVL RX9 108 mX9_countYear := ⟨gmt5 111 rfl rfl, gmt5 113 rfl rfl, gmp3 5 rfl⟩
set_option maxRecDepth 10000 in
theorem gk_RX9_115 : gVL RX9 115 mX9_choose := ⟨gmt5 115 rfl rfl, gmt5 117 rfl rfl, gmp3 6 rfl⟩
set_option maxRecDepth 10000 in
theorem gk_RX9_118 : gVL RX9 118 mX2_holds := ⟨gmt5 109 rfl rfl, gmt4 235 rfl rfl, gmt4 236 rfl rfl⟩
set_option maxRecDepth 10000 in
theorem gk_RX9_127 : gSL RX9 127 mJ9_max_7cf53 := ⟨gmt5 119 rfl rfl, gmt1 61 rfl rfl⟩
set_option maxRecDepth 10000 in
theorem gk_RL_9 : gIL RL 9 mX11_init := ⟨gmt1 24 rfl rfl, gmt1 25 rfl rfl, rfl⟩
set_option maxRecDepth 10000 in
theorem gk_RL_12 : gIL RL 12 mX12_init := ⟨gmt6 1 rfl rfl, gmt6 2 rfl rfl, rfl⟩
set_option maxRecDepth 10000 in
theorem gk_RL_13 : gVL RL 13 mX11_feed := ⟨gmt3 57 rfl rfl, gmt3 58 rfl rfl, gmt3 59 rfl rfl⟩
set_option maxRecDepth 10000 in
theorem gk_RL_17 : gVL RL 17 mX12_feed := ⟨gmt6 150 rfl rfl, gmt6 151 rfl rfl, gmt6 152 rfl rfl⟩
set_option maxRecDepth 10000 in
theorem gk_RL_18 : gVL RL 18 mX11_end := ⟨gmt3 69 rfl rfl, gmt3 70 rfl rfl, gmt3 71 rfl rfl⟩
set_option maxRecDepth 10000 in
theorem gk_RL_22 : gVL RL 22 mX12_end := ⟨gmt6 158 rfl rfl, gmt6 159 rfl rfl, gmt6 160 rfl rfl⟩
set_option maxRecDepth 10000 in
theorem gk_RL_23 : gVL RL 23 mX11_book := ⟨gmt3 77 rfl rfl, gmt3 78 rfl rfl, gmt3 79 rfl rfl⟩
set_option maxRecDepth 10000 in
theorem gk_RL_27 : gVL RL 27 mX12_book := ⟨gmt6 178 rfl rfl, gmt6 179 rfl rfl, gmt6 180 rfl rfl⟩
set_option maxRecDepth 10000 in
theorem gk_RL_28 : gVL RL 28 mX11_fault := ⟨gmt4 86 rfl rfl, gmt4 87 rfl rfl, gmt4 88 rfl rfl⟩
set_option maxRecDepth 10000 in
theorem gk_RL_32 : gVL RL 32 mX12_fault := ⟨gmt6 174 rfl rfl, gmt6 175 rfl rfl, gmt6 176 rfl rfl⟩
set_option maxRecDepth 10000 in
theorem gk_RL_33 : gVL RL 33 mX11_has := ⟨gmt4 90 rfl rfl, gmt4 91 rfl rfl, gmt4 92 rfl rfl⟩
set_option maxRecDepth 10000 in
theorem gk_RL_36 : gVL RL 36 mX12_has := ⟨gmt7 116 rfl rfl, gmt7 117 rfl rfl, gmt7 118 rfl rfl⟩
set_option maxRecDepth 10000 in
theorem gk_RL_37 : gVL RL 37 mX11_letter := ⟨gmt4 104 rfl rfl, gmt4 105 rfl rfl, gmt4 106 rfl rfl⟩
set_option maxRecDepth 10000 in
theorem gk_RL_41 : gVL RL 41 mX12_letter := ⟨gmt7 127 rfl rfl, gmt7 128 rfl rfl, gmt7 129 rfl rfl⟩
set_option maxRecDepth 10000 in
theorem gk_RL_42 : gVL RL 42 mX11_rule := ⟨gmt4 113 rfl rfl, gmt4 114 rfl rfl, gmt4 115 rfl rfl⟩
set_option maxRecDepth 10000 in
theorem gk_RL_45 : gVL RL 45 mX12_rule := ⟨gmt7 147 rfl rfl, gmt7 148 rfl rfl, gmt7 149 rfl rfl⟩
set_option maxRecDepth 10000 in
theorem gk_RL_46 : gVL RL 46 mX11_day := ⟨gmt4 122 rfl rfl, gmt4 123 rfl rfl, gmt4 124 rfl rfl⟩
set_option maxRecDepth 10000 in
theorem gk_RL_50 : gVL RL 50 mX12_day := ⟨gmt7 155 rfl rfl, gmt7 156 rfl rfl, gmt7 157 rfl rfl⟩
set_option maxRecDepth 10000 in
theorem gk_RL_51 : gVL RL 51 mX11_date := ⟨gmt4 128 rfl rfl, gmt4 129 rfl rfl, gmt4 130 rfl rfl⟩
set_option maxRecDepth 10000 in
theorem gk_RL_54 : gVL RL 54 mX12_date_ := ⟨gmt7 159 rfl rfl, gmt7 160 rfl rfl, gmt7 161 rfl rfl⟩
set_option maxRecDepth 10000 in
theorem gk_RL_55 : gVL RL 55 mX11_on := ⟨gmt4 137 rfl rfl, gmt4 138 rfl rfl, gmt4 139 rfl rfl⟩
set_option maxRecDepth 10000 in
theorem gk_RL_58 : gVL RL 58 mX12_on := ⟨gmt7 174 rfl rfl, gmt7 175 rfl rfl, gmt7 176 rfl rfl⟩
set_option maxRecDepth 10000 in
theorem gk_RL_59 : gVL RL 59 mX11_next := ⟨gmt4 238 rfl rfl, gmt4 239 rfl rfl, gmt5 0 rfl rfl⟩
set_option maxRecDepth 10000 in
theorem gk_RL_62 : gVL RL 62 mX12_next := ⟨gmt8 53 rfl rfl, gmt8 54 rfl rfl, gmt8 55 rfl rfl⟩
set_option maxRecDepth 10000 in
theorem gk_RL_63 : gVL RL 63 mX11_ahead := ⟨gmt5 6 rfl rfl, gmt5 7 rfl rfl, gmt5 8 rfl rfl⟩
set_option maxRecDepth 10000 in
theorem gk_RL_66 : gVL RL 66 mX12_ahead := ⟨gmt8 58 rfl rfl, gmt8 59 rfl rfl, gmt8 60 rfl rfl⟩
set_option maxRecDepth 10000 in
theorem gk_RL_67 : gVL RL 67 mX11_nth := ⟨gmt5 14 rfl rfl, gmt5 15 rfl rfl, gmt5 16 rfl rfl⟩
set_option maxRecDepth 10000 in
theorem gk_RL_70 : gVL RL 70 mX12_nth := ⟨gmt8 63 rfl rfl, gmt8 64 rfl rfl, gmt8 65 rfl rfl⟩
set_option maxRecDepth 10000 in
theorem gk_RL_71 : gVL RL 71 mX11_many := ⟨gmt5 26 rfl rfl, gmt5 27 rfl rfl, gmt5 28 rfl rfl⟩
set_option maxRecDepth 10000 in
theorem gk_RL_74 : gVL RL 74 mX12_many := ⟨gmt8 71 rfl rfl, gmt8 72 rfl rfl, gmt8 73 rfl rfl⟩
set_option maxRecDepth 10000 in
theorem gk_RL_75 : gVL RL 75 mX11_gap := ⟨gmt5 30 rfl rfl, gmt5 31 rfl rfl, gmt5 32 rfl rfl⟩
set_option maxRecDepth 10000 in
theorem gk_RL_78 : gVL RL 78 mX12_gap := ⟨gmt8 75 rfl rfl, gmt8 76 rfl rfl, gmt8 77 rfl rfl⟩
set_option maxRecDepth 10000 in
theorem gk_RL_79 : gVL RL 79 mX11_free := ⟨gmt5 34 rfl rfl, gmt5 35 rfl rfl, gmt5 36 rfl rfl⟩
set_option maxRecDepth 10000 in
theorem gk_RL_82 : gVL RL 82 mX12_free := ⟨gmt8 79 rfl rfl, gmt8 80 rfl rfl, gmt8 81 rfl rfl⟩
set_option maxRecDepth 10000 in
theorem gk_RL_83 : gVL RL 83 mX11_meet := ⟨gmt5 42 rfl rfl, gmt5 43 rfl rfl, gmt5 44 rfl rfl⟩
set_option maxRecDepth 10000 in
theorem gk_RL_87 : gVL RL 87 mX12_meet := ⟨gmt8 84 rfl rfl, gmt8 85 rfl rfl, gmt8 86 rfl rfl⟩
set_option maxRecDepth 10000 in
theorem gk_RL_88 : gVL RL 88 mX11_fares := ⟨gmt5 47 rfl rfl, gmt5 48 rfl rfl, gmt5 49 rfl rfl⟩
set_option maxRecDepth 10000 in
theorem gk_RL_91 : gVL RL 91 mX12_fares := ⟨gmt8 88 rfl rfl, gmt8 89 rfl rfl, gmt8 90 rfl rfl⟩
set_option maxRecDepth 10000 in
theorem gk_RL_92 : gVL RL 92 mX11_period := ⟨gmt5 53 rfl rfl, gmt5 54 rfl rfl, gmt5 55 rfl rfl⟩
set_option maxRecDepth 10000 in
theorem gk_RL_95 : gVL RL 95 mX12_period := ⟨gmt8 93 rfl rfl, gmt8 94 rfl rfl, gmt8 95 rfl rfl⟩
set_option maxRecDepth 10000 in
theorem gk_RL_96 : gVL RL 96 mX11_sum := ⟨gmt5 65 rfl rfl, gmt5 66 rfl rfl, gmt5 67 rfl rfl⟩
set_option maxRecDepth 10000 in
theorem gk_RL_99 : gVL RL 99 mX12_sum := ⟨gmt8 98 rfl rfl, gmt8 99 rfl rfl, gmt8 100 rfl rfl⟩
set_option maxRecDepth 10000 in
theorem gk_RL_100 : gVL RL 100 mX11_see := ⟨gmt5 70 rfl rfl, gmt5 71 rfl rfl, gmt5 72 rfl rfl⟩
set_option maxRecDepth 10000 in
theorem gk_RL_103 : gVL RL 103 mX12_see := ⟨gmt8 103 rfl rfl, gmt8 104 rfl rfl, gmt8 105 rfl rfl⟩
set_option maxRecDepth 10000 in
theorem gk_RL_104 : gVL RL 104 mX11_fits := ⟨gmt5 90 rfl rfl, gmt5 91 rfl rfl, gmt5 92 rfl rfl⟩
set_option maxRecDepth 10000 in
theorem gk_RL_107 : gVL RL 107 mX12_fits := ⟨gmt8 107 rfl rfl, gmt8 108 rfl rfl, gmt8 109 rfl rfl⟩
set_option maxRecDepth 10000 in
theorem gk_RL_108 : gVL RL 108 mX11_tells := ⟨gmt5 125 rfl rfl, gmt5 126 rfl rfl, gmt5 127 rfl rfl⟩
set_option maxRecDepth 10000 in
theorem gk_RL_111 : gVL RL 111 mX12_tells := ⟨gmt8 115 rfl rfl, gmt8 116 rfl rfl, gmt8 117 rfl rfl⟩
set_option maxRecDepth 10000 in
theorem gk_RL_112 : gVL RL 112 mX11_add := ⟨gmt5 129 rfl rfl, gmt5 130 rfl rfl, gmt5 131 rfl rfl⟩
set_option maxRecDepth 10000 in
theorem gk_RL_116 : gVL RL 116 mX12_add := ⟨gmt8 123 rfl rfl, gmt8 124 rfl rfl, gmt8 125 rfl rfl⟩
set_option maxRecDepth 10000 in
theorem gk_RL_117 : gVL RL 117 mX11_leave := ⟨gmt5 172 rfl rfl, gmt5 173 rfl rfl, gmt5 174 rfl rfl⟩
set_option maxRecDepth 10000 in
theorem gk_RL_120 : gVL RL 120 mX12_leave := ⟨gmt8 143 rfl rfl, gmt8 144 rfl rfl, gmt8 145 rfl rfl⟩
set_option maxRecDepth 10000 in
theorem gk_RL_121 : gVL RL 121 mX11_every := ⟨gmt5 176 rfl rfl, gmt5 177 rfl rfl, gmt5 178 rfl rfl⟩
set_option maxRecDepth 10000 in
theorem gk_RL_124 : gVL RL 124 mX12_every := ⟨gmt8 147 rfl rfl, gmt8 148 rfl rfl, gmt8 149 rfl rfl⟩
set_option maxRecDepth 10000 in
theorem gk_RL_125 : gVL RL 125 mX11_from := ⟨gmt5 182 rfl rfl, gmt5 183 rfl rfl, gmt5 184 rfl rfl⟩
set_option maxRecDepth 10000 in
theorem gk_RL_128 : gVL RL 128 mX12_from := ⟨gmt8 152 rfl rfl, gmt8 153 rfl rfl, gmt8 154 rfl rfl⟩
set_option maxRecDepth 10000 in
theorem gk_RL_129 : gVL RL 129 mX11_chance := ⟨gmt5 191 rfl rfl, gmt5 192 rfl rfl, gmt5 193 rfl rfl⟩
set_option maxRecDepth 10000 in
theorem gk_RL_132 : gVL RL 132 mX12_chance := ⟨gmt8 160 rfl rfl, gmt8 161 rfl rfl, gmt8 162 rfl rfl⟩
set_option maxRecDepth 10000 in
theorem gk_RL_133 : gVL RL 133 mX11_undo := ⟨gmt5 202 rfl rfl, gmt5 203 rfl rfl, gmt5 204 rfl rfl⟩
set_option maxRecDepth 10000 in
theorem gk_RL_137 : gVL RL 137 mX12_undo := ⟨gmt8 119 rfl rfl, gmt8 120 rfl rfl, gmt8 121 rfl rfl⟩
set_option maxRecDepth 10000 in
theorem gk_RL_138 : gVL RL 138 mX11_seed := ⟨gmt5 231 rfl rfl, gmt5 232 rfl rfl, gmt5 233 rfl rfl⟩
set_option maxRecDepth 10000 in
theorem gk_RL_141 : gVL RL 141 mX12_seed := ⟨gmt8 156 rfl rfl, gmt8 157 rfl rfl, gmt8 158 rfl rfl⟩
set_option maxRecDepth 10000 in
theorem gk_RL_142 : gVL RL 142 mX11_status := ⟨gmt5 235 rfl rfl, gmt5 236 rfl rfl, gmt5 237 rfl rfl⟩
set_option maxRecDepth 10000 in
theorem gk_RL_145 : gVL RL 145 mX12_status := ⟨gmt6 166 rfl rfl, gmt6 167 rfl rfl, gmt6 168 rfl rfl⟩
set_option maxRecDepth 10000 in
theorem gk_RX12_100 : gVL RX12 100 mX12_refuses := ⟨gmt6 154 rfl rfl, gmt6 156 rfl rfl, gmp3 12 rfl⟩
set_option maxRecDepth 10000 in
theorem gk_RX12_104 : gVL RX12 104 mX12_isRefused := ⟨gmt6 162 rfl rfl, gmt6 164 rfl rfl, gmp3 13 rfl⟩
set_option maxRecDepth 10000 in
theorem gk_RX12_110 : gSL RX12 110 mX12_isIn := ⟨gmt6 171 rfl rfl, gmt6 172 rfl rfl⟩
set_option maxRecDepth 10000 in
theorem gk_RX12_129 : gVL RX12 129 mX12_look := ⟨gmt6 192 rfl rfl, gmt6 194 rfl rfl, gmp3 15 rfl⟩
set_option maxRecDepth 10000 in
theorem gk_RX12_133 : gSL RX12 133 mX12_isLetter := ⟨gmt6 216 rfl rfl, gmt6 217 rfl rfl⟩
set_option maxRecDepth 10000 in
theorem gk_RX12_139 : gVL RX12 139 mX12_takesSign := ⟨gmt7 29 rfl rfl, gmt7 31 rfl rfl, gmp4 15 rfl⟩
set_option maxRecDepth 10000 in
theorem gk_RX12_142 : gVL RX12 142 mX12_fail := ⟨gmt6 196 rfl rfl, gmt6 198 rfl rfl, gmp4 0 rfl⟩
set_option maxRecDepth 10000 in
theorem gk_RX12_146 : gSL RX12 146 mX12_isDigit := ⟨gmt7 17 rfl rfl, gmt7 18 rfl rfl⟩
set_option maxRecDepth 10000 in
theorem gk_RX12_152 : gVL RX12 152 mX12_isWordHere := ⟨gmt6 212 rfl rfl, gmt6 214 rfl rfl, gmp4 4 rfl⟩
set_option maxRecDepth 10000 in
theorem gk_RX12_156 : gVL RX12 156 mX12_isLike := ⟨gmt6 219 rfl rfl, gmt6 221 rfl rfl, gmp4 5 rfl⟩
set_option maxRecDepth 10000 in
theorem gk_RX12_160 : gVL RX12 160 mX12_ownHere := ⟨gmt6 208 rfl rfl, gmt6 210 rfl rfl, gmp4 3 rfl⟩
set_option maxRecDepth 10000 in
theorem gk_RX12_163 : gVL RX12 163 mX12_passes := ⟨gmt6 223 rfl rfl, gmt6 225 rfl rfl, gmp4 6 rfl⟩
set_option maxRecDepth 10000 in
theorem gk_RX12_166 : gVL RX12 166 mX12_takes := ⟨gmt6 204 rfl rfl, gmt6 206 rfl rfl, gmp4 2 rfl⟩
set_option maxRecDepth 10000 in
theorem gk_RX12_172 : gSL RX12 172 mX12_isLeap := ⟨gmt6 189 rfl rfl, gmt6 190 rfl rfl⟩
set_option maxRecDepth 10000 in
theorem gk_RX12_179 : gSL RX12 179 mX12_longMonth := ⟨gmt6 186 rfl rfl, gmt6 187 rfl rfl⟩
set_option maxRecDepth 10000 in
theorem gk_RX12_183 : gVL RX12 183 mX12_laysDays := ⟨gmt6 182 rfl rfl, gmt6 184 rfl rfl, gmp3 14 rfl⟩
set_option maxRecDepth 10000 in
theorem gk_RX12_186 : gSL RX12 186 mX12_ruleAt := ⟨gmt6 231 rfl rfl, gmt6 232 rfl rfl⟩
set_option maxRecDepth 10000 in
theorem gk_RX12_189 : gSL RX12 189 mX12_setAt := ⟨gmt7 6 rfl rfl, gmt7 7 rfl rfl⟩
set_option maxRecDepth 10000 in
theorem gk_RX12_192 : gVL RX12 192 mX12_name := ⟨gmt6 238 rfl rfl, gmt7 0 rfl rfl, gmp4 9 rfl⟩
set_option maxRecDepth 10000 in
theorem gk_RX12_195 : gVL RX12 195 mX12_named := ⟨gmt7 2 rfl rfl, gmt7 4 rfl rfl, gmp4 10 rfl⟩
set_option maxRecDepth 10000 in
theorem gk_RX12_198 : gVL RX12 198 mX12_number := ⟨gmt7 13 rfl rfl, gmt7 15 rfl rfl, gmp4 12 rfl⟩
set_option maxRecDepth 10000 in
theorem gk_RX12_201 : gVL RX12 201 mX12_asksSign := ⟨gmt7 25 rfl rfl, gmt7 27 rfl rfl, gmp4 14 rfl⟩
set_option maxRecDepth 10000 in
theorem gk_RX12_205 : gVL RX12 205 mX12_dayOf := ⟨gmt7 33 rfl rfl, gmt7 35 rfl rfl, gmp5 0 rfl⟩
set_option maxRecDepth 10000 in
theorem gk_RX12_209 : gVL RX12 209 mX12_room := ⟨gmt7 50 rfl rfl, gmt7 52 rfl rfl, gmp5 3 rfl⟩
set_option maxRecDepth 10000 in
theorem gk_RX12_212 : gSL RX12 212 mX12_isOf := ⟨gmt7 39 rfl rfl, gmt7 40 rfl rfl⟩
set_option maxRecDepth 10000 in
theorem gk_RX12_215 : gVL RX12 215 mX12_place := ⟨gmt7 58 rfl rfl, gmt7 60 rfl rfl, gmp5 5 rfl⟩
set_option maxRecDepth 10000 in
theorem gk_RX12_222 : gVL RX12 222 mX12_weekday := ⟨gmt7 66 rfl rfl, gmt7 68 rfl rfl, gmp5 7 rfl⟩
set_option maxRecDepth 10000 in
theorem gk_RX12_225 : gVL RX12 225 mX12_inTold := ⟨gmt7 46 rfl rfl, gmt7 48 rfl rfl, gmp5 2 rfl⟩
set_option maxRecDepth 10000 in
theorem gk_RX12_228 : gVL RX12 228 mX12_placesTold := ⟨gmt7 54 rfl rfl, gmt7 56 rfl rfl, gmp5 4 rfl⟩
set_option maxRecDepth 10000 in
theorem gk_RX12_232 : gVL RX12 232 mX12_byTold := ⟨gmt7 62 rfl rfl, gmt7 64 rfl rfl, gmp5 6 rfl⟩
set_option maxRecDepth 10000 in
theorem gk_RX12_235 : gVL RX12 235 mX12_date := ⟨gmt7 21 rfl rfl, gmt7 23 rfl rfl, gmp4 13 rfl⟩
set_option maxRecDepth 10000 in
theorem gk_RX12_238 : gVL RX12 238 mX12_newName := ⟨gmt6 234 rfl rfl, gmt6 236 rfl rfl, gmp4 8 rfl⟩
set_option maxRecDepth 10000 in
theorem gk_RX12_241 : gVL RX12 241 mX12_asks := ⟨gmt7 9 rfl rfl, gmt7 11 rfl rfl, gmp4 11 rfl⟩
set_option maxRecDepth 10000 in
theorem gk_RX12_250 : gVL RX12 250 mX12_partTold := ⟨gmt7 42 rfl rfl, gmt7 44 rfl rfl, gmp5 1 rfl⟩
set_option maxRecDepth 10000 in
theorem gk_RX12_259 : gVL RX12 259 mX12_codes := ⟨gmt7 88 rfl rfl, gmt7 90 rfl rfl, gmp5 12 rfl⟩
set_option maxRecDepth 10000 in
theorem gk_RX12_261 : gVL RX12 261 mX12_what := ⟨gmt7 92 rfl rfl, gmt7 94 rfl rfl, gmp5 13 rfl⟩
set_option maxRecDepth 10000 in
theorem gk_RX12_264 : gVL RX12 264 mX12_movesTold := ⟨gmt7 100 rfl rfl, gmt7 102 rfl rfl, gmp5 15 rfl⟩
set_option maxRecDepth 10000 in
theorem gk_RX12_267 : gVL RX12 267 mX12_joins := ⟨gmt7 104 rfl rfl, gmt7 106 rfl rfl, gmp6 0 rfl⟩
set_option maxRecDepth 10000 in
theorem gk_RX12_271 : gVL RX12 271 mX12_opens := ⟨gmt7 80 rfl rfl, gmt7 82 rfl rfl, gmp5 10 rfl⟩
set_option maxRecDepth 10000 in
theorem gk_RX12_277 : gVL RX12 277 mX12_daysTold := ⟨gmt7 84 rfl rfl, gmt7 86 rfl rfl, gmp5 11 rfl⟩
set_option maxRecDepth 10000 in
theorem gk_RX12_280 : gVL RX12 280 mX12_goesOn := ⟨gmt7 96 rfl rfl, gmt7 98 rfl rfl, gmp5 14 rfl⟩
set_option maxRecDepth 10000 in
theorem gk_RX12_283 : gVL RX12 283 mX12_sumTold := ⟨gmt7 76 rfl rfl, gmt7 78 rfl rfl, gmp5 9 rfl⟩
set_option maxRecDepth 10000 in
theorem gk_RX12_286 : gVL RX12 286 mX12_ruleTold := ⟨gmt6 227 rfl rfl, gmt6 229 rfl rfl, gmp4 7 rfl⟩
set_option maxRecDepth 10000 in
theorem gk_RX12_289 : gVL RX12 289 mX12_setTold := ⟨gmt7 72 rfl rfl, gmt7 74 rfl rfl, gmp5 8 rfl⟩
set_option maxRecDepth 10000 in
theorem gk_RX12_295 : gVL RX12 295 mX12_statementTold := ⟨gmt6 200 rfl rfl, gmt6 202 rfl rfl, gmp4 1 rfl⟩
set_option maxRecDepth 10000 in
theorem gk_RX12_301 : gVL RX12 301 mX12_begins := ⟨gmt7 108 rfl rfl, gmt7 110 rfl rfl, gmp6 1 rfl⟩
set_option maxRecDepth 10000 in
theorem gk_RX12_310 : gVL RX12 310 mX12_allAnew := ⟨gmt7 112 rfl rfl, gmt7 114 rfl rfl, gmp6 2 rfl⟩
set_option maxRecDepth 10000 in
theorem gk_RX12_313 : gVL RX12 313 mX12_isRule := ⟨gmt7 135 rfl rfl, gmt7 137 rfl rfl, gmp6 5 rfl⟩
set_option maxRecDepth 10000 in
theorem gk_RX12_316 : gVL RX12 316 mX12_isSet := ⟨gmt7 139 rfl rfl, gmt7 141 rfl rfl, gmp6 6 rfl⟩
set_option maxRecDepth 10000 in
theorem gk_RX12_321 : gVL RX12 321 mX12_ruleHas := ⟨gmt7 143 rfl rfl, gmt7 145 rfl rfl, gmp6 7 rfl⟩
set_option maxRecDepth 10000 in
theorem gk_RX12_324 : gVL RX12 324 mX12_longMonthOf := ⟨gmt7 170 rfl rfl, gmt7 172 rfl rfl, gmp6 9 rfl⟩
set_option maxRecDepth 10000 in
theorem gk_RX12_327 : gSL RX12 327 mX12_weekdayOf := ⟨gmt7 167 rfl rfl, gmt7 168 rfl rfl⟩
set_option maxRecDepth 10000 in
theorem gk_RX12_330 : gVL RX12 330 mX12_hasIn := ⟨gmt7 206 rfl rfl, gmt7 208 rfl rfl, gmp7 1 rfl⟩
set_option maxRecDepth 10000 in
theorem gk_RX12_333 : gVL RX12 333 mX12_fromOf := ⟨gmt7 151 rfl rfl, gmt7 153 rfl rfl, gmp6 8 rfl⟩
set_option maxRecDepth 10000 in
theorem gk_RX12_336 : gVL RX12 336 mX12_hasOn := ⟨gmt7 210 rfl rfl, gmt7 212 rfl rfl, gmp7 2 rfl⟩
set_option maxRecDepth 10000 in
theorem gk_RX12_339 : gVL RX12 339 mX12_isDated := ⟨gmt7 214 rfl rfl, gmt7 216 rfl rfl, gmp7 3 rfl⟩
set_option maxRecDepth 10000 in
theorem gk_RX12_342 : gVL RX12 342 mX12_hasBy := ⟨gmt7 218 rfl rfl, gmt7 220 rfl rfl, gmp7 4 rfl⟩
set_option maxRecDepth 10000 in
theorem gk_RX12_345 : gVL RX12 345 mX12_isWeekday := ⟨gmt7 222 rfl rfl, gmt7 224 rfl rfl, gmp7 5 rfl⟩
set_option maxRecDepth 10000 in
theorem gk_RX12_348 : gVL RX12 348 mX12_isPlaced := ⟨gmt7 230 rfl rfl, gmt7 232 rfl rfl, gmp7 7 rfl⟩
set_option maxRecDepth 10000 in
theorem gk_RX12_352 : gVL RX12 352 mX12_isDateOfBegin := ⟨gmt7 234 rfl rfl, gmt7 236 rfl rfl, gmp7 8 rfl⟩
set_option maxRecDepth 10000 in
theorem gk_RX12_355 : gVL RX12 355 mX12_isInMonths := ⟨gmt7 202 rfl rfl, gmt7 204 rfl rfl, gmp7 0 rfl⟩
set_option maxRecDepth 10000 in
theorem gk_RX12_358 : gVL RX12 358 mX12_isOfMonth := ⟨gmt7 226 rfl rfl, gmt7 228 rfl rfl, gmp7 6 rfl⟩
set_option maxRecDepth 10000 in
theorem gk_RX12_361 : gVL RX12 361 mX12_isOfYear := ⟨gmt7 238 rfl rfl, gmt8 0 rfl rfl, gmp7 9 rfl⟩
set_option maxRecDepth 10000 in
theorem gk_RX12_364 : gVL RX12 364 mX12_periodOf := ⟨gmt7 194 rfl rfl, gmt7 196 rfl rfl, gmp6 14 rfl⟩
set_option maxRecDepth 10000 in
theorem gk_RX12_367 : gVL RX12 367 mX12_isOfPeriod := ⟨gmt7 198 rfl rfl, gmt7 200 rfl rfl, gmp6 15 rfl⟩
set_option maxRecDepth 10000 in
theorem gk_RX12_370 : gSL RX12 370 mX12_flag := ⟨gmt8 2 rfl rfl, gmt8 3 rfl rfl⟩
set_option maxRecDepth 10000 in
theorem gk_RX12_374 : gVL RX12 374 mX12_isAt := ⟨gmt8 5 rfl rfl, gmt8 7 rfl rfl, gmp7 10 rfl⟩
set_option maxRecDepth 10000 in
theorem gk_RX12_378 : gVL RX12 378 mX12_laysPeriod := ⟨gmt7 190 rfl rfl, gmt7 192 rfl rfl, gmp6 13 rfl⟩
set_option maxRecDepth 10000 in
theorem gk_RX12_381 : gVL RX12 381 mX12_isGone := ⟨gmt8 13 rfl rfl, gmt8 15 rfl rfl, gmp7 12 rfl⟩
set_option maxRecDepth 10000 in
theorem gk_RX12_387 : gSL RX12 387 mX12_isDay := ⟨gmt7 163 rfl rfl, gmt7 164 rfl rfl⟩
set_option maxRecDepth 10000 in
theorem gk_RX12_390 : gVL RX12 390 mX12_puts := ⟨gmt8 29 rfl rfl, gmt8 31 rfl rfl, gmp8 0 rfl⟩
set_option maxRecDepth 10000 in
theorem gk_RX12_393 : gVL RX12 393 mX12_putsDay := ⟨gmt8 33 rfl rfl, gmt8 35 rfl rfl, gmp8 1 rfl⟩
set_option maxRecDepth 10000 in
theorem gk_RX12_396 : gVL RX12 396 mX12_movesTop := ⟨gmt8 37 rfl rfl, gmt8 39 rfl rfl, gmp8 2 rfl⟩
set_option maxRecDepth 10000 in
theorem gk_RX12_399 : gVL RX12 399 mX12_goesOff := ⟨gmt8 41 rfl rfl, gmt8 43 rfl rfl, gmp8 3 rfl⟩
set_option maxRecDepth 10000 in
theorem gk_RX12_402 : gVL RX12 402 mX12_joinsTop := ⟨gmt8 45 rfl rfl, gmt8 47 rfl rfl, gmp8 4 rfl⟩
set_option maxRecDepth 10000 in
theorem gk_RX12_405 : gVL RX12 405 mX12_does := ⟨gmt8 25 rfl rfl, gmt8 27 rfl rfl, gmp7 15 rfl⟩
set_option maxRecDepth 10000 in
theorem gk_RX12_408 : gSL RX12 408 mX12_handAt := ⟨gmt7 124 rfl rfl, gmt7 125 rfl rfl⟩
set_option maxRecDepth 10000 in
theorem gk_RX12_412 : gVL RX12 412 mX12_laysBase := ⟨gmt7 186 rfl rfl, gmt7 188 rfl rfl, gmp6 12 rfl⟩
set_option maxRecDepth 10000 in
theorem gk_RX12_415 : gVL RX12 415 mX12_laysDaysBy := ⟨gmt8 9 rfl rfl, gmt8 11 rfl rfl, gmp7 11 rfl⟩
set_option maxRecDepth 10000 in
theorem gk_RX12_419 : gVL RX12 419 mX12_lays0 := ⟨gmt8 17 rfl rfl, gmt8 19 rfl rfl, gmp7 13 rfl⟩
set_option maxRecDepth 10000 in
theorem gk_RX12_422 : gVL RX12 422 mX12_laysSet := ⟨gmt8 21 rfl rfl, gmt8 23 rfl rfl, gmp7 14 rfl⟩
set_option maxRecDepth 10000 in
theorem gk_RX12_425 : gVL RX12 425 mX12_handMany := ⟨gmt7 120 rfl rfl, gmt7 122 rfl rfl, gmp6 3 rfl⟩
set_option maxRecDepth 10000 in
theorem gk_RX12_428 : gVL RX12 428 mX12_isWhat := ⟨gmt7 131 rfl rfl, gmt7 133 rfl rfl, gmp6 4 rfl⟩
set_option maxRecDepth 10000 in
theorem gk_RX12_431 : gVL RX12 431 mX12_lays := ⟨gmt7 182 rfl rfl, gmt7 184 rfl rfl, gmp6 11 rfl⟩
set_option maxRecDepth 10000 in
theorem gk_RX12_434 : gVL RX12 434 mX12_isAsked := ⟨gmt7 178 rfl rfl, gmt7 180 rfl rfl, gmp6 10 rfl⟩
set_option maxRecDepth 10000 in
theorem gk_RX12_437 : gVL RX12 437 mX12_isOn := ⟨gmt8 49 rfl rfl, gmt8 51 rfl rfl, gmp8 5 rfl⟩
set_option maxRecDepth 10000 in
theorem gk_RX12_444 : gVL RX12 444 mX12_count := ⟨gmt8 67 rfl rfl, gmt8 69 rfl rfl, gmp8 6 rfl⟩
set_option maxRecDepth 10000 in
theorem gk_RX12_458 : gVL RX12 458 mX12_laysFits := ⟨gmt8 111 rfl rfl, gmt8 113 rfl rfl, gmp8 7 rfl⟩
set_option maxRecDepth 10000 in
theorem gk_RX12_464 : gVL RX12 464 mX12_handOf := ⟨gmt8 131 rfl rfl, gmt8 133 rfl rfl, gmp8 9 rfl⟩
set_option maxRecDepth 10000 in
theorem gk_RX12_468 : gVL RX12 468 mX12_canHand := ⟨gmt8 127 rfl rfl, gmt8 129 rfl rfl, gmp8 8 rfl⟩
set_option maxRecDepth 10000 in
theorem gk_RX12_472 : gVL RX12 472 mX12_keeps := ⟨gmt8 135 rfl rfl, gmt8 137 rfl rfl, gmp8 10 rfl⟩
set_option maxRecDepth 10000 in
theorem gk_RX12_475 : gVL RX12 475 mX12_hands := ⟨gmt8 139 rfl rfl, gmt8 141 rfl rfl, gmp8 11 rfl⟩
set_option maxRecDepth 10000 in
theorem gk_RX12_491 : gVL RX12 491 mX12_drawOf := ⟨gmt8 165 rfl rfl, gmt8 167 rfl rfl, gmp8 12 rfl⟩
set_option maxRecDepth 10000 in
theorem gk_RJ0_335 : gVL RJ0 335 mJ0_coder_7d493 := ⟨gmt3 103 rfl rfl, gmt3 104 rfl rfl, gmt3 105 rfl rfl⟩
set_option maxRecDepth 10000 in
theorem gk_RJ0_492 : gVL RJ0 492 mJ0_isLatin1_aae02 := ⟨gmt3 113 rfl rfl, gmt3 114 rfl rfl, gmt3 115 rfl rfl⟩
set_option maxRecDepth 10000 in
theorem gk_RJ0_495 : gSL RJ0 495 mJ1_charAt_3b067 := ⟨gmt3 117 rfl rfl, gmt3 118 rfl rfl⟩
set_option maxRecDepth 10000 in
theorem gk_RJ0_498 : gSL RJ0 498 mJ2_charAt_3b067 := ⟨gmt3 128 rfl rfl, gmt3 129 rfl rfl⟩
set_option maxRecDepth 10000 in
theorem gk_RJ0_1059 : gSL RJ0 1059 mJ3_checkIndex_8e157 := ⟨gmt3 125 rfl rfl, gmt3 126 rfl rfl⟩
set_option maxRecDepth 10000 in
theorem gk_RJ1_9 : gSL RJ1 9 mJ0_checkIndex_df160 := ⟨gmt3 120 rfl rfl, gmt3 121 rfl rfl⟩
set_option maxRecDepth 10000 in
theorem gk_RJ2_48 : gSL RJ2 48 mJ2_length_9d52b := ⟨gmt3 134 rfl rfl, gmt3 135 rfl rfl⟩
set_option maxRecDepth 10000 in
theorem gk_RJ2_67 : gSL RJ2 67 mJ2_checkIndex_2214a := ⟨gmt3 131 rfl rfl, gmt3 132 rfl rfl⟩
set_option maxRecDepth 10000 in
theorem gk_RJ2_71 : gSL RJ2 71 mJ2_getChar_3b067 := ⟨gmt3 138 rfl rfl, gmt3 139 rfl rfl⟩
set_option maxRecDepth 10000 in
theorem gk_RJ2_414 : gSL RJ2 414 mJ0_checkIndex_df160 := ⟨gmt3 137 rfl rfl, gmt3 121 rfl rfl⟩
set_option maxRecDepth 10000 in
theorem gn_RX11_7 : gNL RX11 7 10 := ⟨RX10, TX10, 2, rfl, gmt1 30 rfl rfl⟩
set_option maxRecDepth 10000 in
theorem gn_RX11_16 : gNL RX11 16 6 := ⟨RX6, TX6, 9, rfl, gmt1 48 rfl rfl⟩
set_option maxRecDepth 10000 in
theorem gn_RX11_23 : gNL RX11 23 3 := ⟨RX3, TX3, 3, rfl, gmt1 108 rfl rfl⟩
set_option maxRecDepth 10000 in
theorem gn_RX11_30 : gNL RX11 30 5 := ⟨RX5, TX5, 8, rfl, gmt1 168 rfl rfl⟩
set_option maxRecDepth 10000 in
theorem gn_RX11_39 : gNL RX11 39 4 := ⟨RX4, TX4, 6, rfl, gmt1 214 rfl rfl⟩
set_option maxRecDepth 10000 in
theorem gn_RX11_46 : gNL RX11 46 9 := ⟨RX9, TX9, 12, rfl, gmt2 2 rfl rfl⟩
set_option maxRecDepth 10000 in
theorem gn_RX11_57 : gNL RX11 57 1 := ⟨RX1, TX1, 7, rfl, gmt2 54 rfl rfl⟩
set_option maxRecDepth 10000 in
theorem gn_RX1_9 : gNL RX1 9 8 := ⟨RX8, TX8, 15, rfl, gmt2 60 rfl rfl⟩
set_option maxRecDepth 10000 in
theorem ga_RX1_9 : Cond.classLink RX1 9 (gCn 7) ∈ gTb := gmt2 60 rfl rfl
set_option maxRecDepth 10000 in
theorem gn_RX3_9 : gNL RX3 9 0 := ⟨RX0, TX0, 8, rfl, gmt1 114 rfl rfl⟩
set_option maxRecDepth 10000 in
theorem gn_RX4_21 : gNL RX4 21 7 := ⟨RX7, TX7, 2, rfl, gmt1 220 rfl rfl⟩
set_option maxRecDepth 10000 in
theorem ga_RX4_21 : Cond.classLink RX4 21 (gCn 6) ∈ gTb := gmt1 220 rfl rfl
set_option maxRecDepth 10000 in
theorem gn_RX5_9 : gNL RX5 9 2 := ⟨RX2, TX2, 1, rfl, gmt1 174 rfl rfl⟩
set_option maxRecDepth 10000 in
theorem ga_RX5_9 : Cond.classLink RX5 9 (gCn 5) ∈ gTb := gmt1 174 rfl rfl
set_option maxRecDepth 10000 in
theorem gn_RX5_20 : gNL RX5 20 7 := ⟨RX7, TX7, 2, rfl, gmt1 176 rfl rfl⟩
set_option maxRecDepth 10000 in
theorem ga_RX5_20 : Cond.classLink RX5 20 (gCn 6) ∈ gTb := gmt1 176 rfl rfl
set_option maxRecDepth 10000 in
theorem gn_RX6_19 : gNL RX6 19 7 := ⟨RX7, TX7, 2, rfl, gmt1 54 rfl rfl⟩
set_option maxRecDepth 10000 in
theorem ga_RX6_19 : Cond.classLink RX6 19 (gCn 6) ∈ gTb := gmt1 54 rfl rfl
set_option maxRecDepth 10000 in
theorem gn_RX8_9 : gNL RX8 9 7 := ⟨RX7, TX7, 2, rfl, gmt2 67 rfl rfl⟩
set_option maxRecDepth 10000 in
theorem ga_RX8_9 : Cond.classLink RX8 9 (gCn 6) ∈ gTb := gmt2 67 rfl rfl
set_option maxRecDepth 10000 in
theorem gn_RX9_9 : gNL RX9 9 2 := ⟨RX2, TX2, 1, rfl, gmt2 8 rfl rfl⟩
set_option maxRecDepth 10000 in
theorem ga_RX9_9 : Cond.classLink RX9 9 (gCn 5) ∈ gTb := gmt2 8 rfl rfl
set_option maxRecDepth 10000 in
theorem gn_RX9_29 : gNL RX9 29 7 := ⟨RX7, TX7, 2, rfl, gmt2 10 rfl rfl⟩
set_option maxRecDepth 10000 in
theorem ga_RX9_29 : Cond.classLink RX9 29 (gCn 6) ∈ gTb := gmt2 10 rfl rfl
set_option maxRecDepth 10000 in
theorem gn_RL_7 : gNL RL 7 11 := ⟨RX11, TX11, 10, rfl, gmt1 22 rfl rfl⟩
set_option maxRecDepth 10000 in
theorem gn_RL_10 : gNL RL 10 12 := ⟨RX12, TX12, 47, rfl, gmt5 239 rfl rfl⟩
set_option maxRecDepth 10000 in
theorem gac_0 : Cond.arrayClass (newarray.typeOf (gAT 0)) ∈ gTb := gmt1 47 rfl rfl
set_option maxRecDepth 10000 in
theorem gac_1 : Cond.arrayClass (newarray.typeOf (gAT 1)) ∈ gTb := gmt6 149 rfl rfl
set_option maxRecDepth 10000 in
theorem gac_2 : Cond.arrayClass (newarray.typeOf (gAT 2)) ∈ gTb := gmt1 77 rfl rfl
set_option maxRecDepth 10000 in
theorem gac_3 : Cond.arrayClass (newarray.typeOf (gAT 3)) ∈ gTb := gmt1 187 rfl rfl
set_option maxRecDepth 10000 in
theorem gac_4 : Cond.arrayClass (newarray.typeOf (gAT 4)) ∈ gTb := gmt2 53 rfl rfl
set_option maxRecDepth 10000 in
theorem gc_RX12_57 : Cond.constant RX12 57 175320 ∈ gTb := gmt6 5 rfl rfl
set_option maxRecDepth 10000 in
theorem gc_RX12_68 : Cond.constant RX12 68 233760 ∈ gTb := gmt6 6 rfl rfl
set_option maxRecDepth 10000 in
theorem gcl_RX11_197 : Cond.constantLong RX11 197 (1000003) ∈ gTb := gmt5 69 rfl rfl
set_option maxRecDepth 10000 in
theorem gcl_RX11_282 : Cond.constantLong RX11 282 (1103515245) ∈ gTb := gmt5 199 rfl rfl
set_option maxRecDepth 10000 in
theorem gcl_RX11_284 : Cond.constantLong RX11 284 (12345) ∈ gTb := gmt5 200 rfl rfl
set_option maxRecDepth 10000 in
theorem gcl_RX11_286 : Cond.constantLong RX11 286 (2147483647) ∈ gTb := gmt5 201 rfl rfl
set_option maxRecDepth 10000 in
theorem gcl_RX2_31 : Cond.constantLong RX2 31 (-1) ∈ gTb := gmt4 204 rfl rfl
set_option maxRecDepth 10000 in
theorem gcl_RX2_37 : Cond.constantLong RX2 37 (262143) ∈ gTb := gmt4 191 rfl rfl
set_option maxRecDepth 10000 in
theorem gcl_RX12_108 : Cond.constantLong RX12 108 (5) ∈ gTb := gmt6 170 rfl rfl
set_option maxRecDepth 10000 in
theorem gcl_RX12_218 : Cond.constantLong RX12 218 (4) ∈ gTb := gmt7 70 rfl rfl
set_option maxRecDepth 10000 in
theorem gcl_RX12_220 : Cond.constantLong RX12 220 (10) ∈ gTb := gmt7 71 rfl rfl
set_option maxRecDepth 10000 in
theorem gcl_RX12_244 : Cond.constantLong RX12 244 (3) ∈ gTb := gmt7 20 rfl rfl
set_option maxRecDepth 10000 in
theorem gcl_RX12_246 : Cond.constantLong RX12 246 (11) ∈ gTb := gmt7 37 rfl rfl
set_option maxRecDepth 10000 in
theorem gcl_RX12_248 : Cond.constantLong RX12 248 (16) ∈ gTb := gmt7 38 rfl rfl
set_option maxRecDepth 10000 in
theorem gcl_RX12_319 : Cond.constantLong RX12 319 (14609) ∈ gTb := gmt7 166 rfl rfl
set_option maxRecDepth 10000 in
theorem gcl_RX12_440 : Cond.constantLong RX12 440 (-1) ∈ gTb := gmt8 57 rfl rfl
set_option maxRecDepth 10000 in
theorem gcl_RX12_442 : Cond.constantLong RX12 442 (14610) ∈ gTb := gmt8 62 rfl rfl
set_option maxRecDepth 10000 in
theorem gcl_RX12_447 : Cond.constantLong RX12 447 (999) ∈ gTb := gmt8 83 rfl rfl
set_option maxRecDepth 10000 in
theorem gcl_RX12_449 : Cond.constantLong RX12 449 (18) ∈ gTb := gmt8 92 rfl rfl
set_option maxRecDepth 10000 in
theorem gcl_RX12_451 : Cond.constantLong RX12 451 (2) ∈ gTb := gmt8 97 rfl rfl
set_option maxRecDepth 10000 in
theorem gcl_RX12_453 : Cond.constantLong RX12 453 (1000003) ∈ gTb := gmt8 102 rfl rfl
set_option maxRecDepth 10000 in
theorem gcl_RX12_479 : Cond.constantLong RX12 479 (99) ∈ gTb := gmt8 151 rfl rfl
set_option maxRecDepth 10000 in
theorem gcl_RX12_481 : Cond.constantLong RX12 481 (1103515245) ∈ gTb := gmt8 169 rfl rfl
set_option maxRecDepth 10000 in
theorem gcl_RX12_483 : Cond.constantLong RX12 483 (12345) ∈ gTb := gmt8 170 rfl rfl
set_option maxRecDepth 10000 in
theorem gcl_RX12_485 : Cond.constantLong RX12 485 (2147483648) ∈ gTb := gmt8 171 rfl rfl
set_option maxRecDepth 10000 in
theorem gcl_RX12_487 : Cond.constantLong RX12 487 (64) ∈ gTb := gmt8 172 rfl rfl
set_option maxRecDepth 10000 in
theorem gcl_RX12_489 : Cond.constantLong RX12 489 (40) ∈ gTb := gmt8 164 rfl rfl
set_option maxRecDepth 10000 in
theorem gcl_RJ13_314 : Cond.constantLong RJ13 314 (6148914691236517205) ∈ gTb := gmt4 208 rfl rfl
set_option maxRecDepth 10000 in
theorem gcl_RJ13_316 : Cond.constantLong RJ13 316 (3689348814741910323) ∈ gTb := gmt4 209 rfl rfl
set_option maxRecDepth 10000 in
theorem gcl_RJ13_318 : Cond.constantLong RJ13 318 (1085102592571150095) ∈ gTb := gmt4 210 rfl rfl
set_option maxRecDepth 10000 in
theorem go_RX11_1 : Cond.methodLink RX11 1 Lib.objectInit ∈ gTb := gmt1 27 rfl rfl
set_option maxRecDepth 10000 in
theorem go_RX0_3 : Cond.methodLink RX0 3 Lib.objectInit ∈ gTb := gmt1 119 rfl rfl
set_option maxRecDepth 10000 in
theorem go_RX1_3 : Cond.methodLink RX1 3 Lib.objectInit ∈ gTb := gmt2 59 rfl rfl
set_option maxRecDepth 10000 in
theorem go_RX2_3 : Cond.methodLink RX2 3 Lib.objectInit ∈ gTb := gmt1 182 rfl rfl
set_option maxRecDepth 10000 in
theorem go_RX3_3 : Cond.methodLink RX3 3 Lib.objectInit ∈ gTb := gmt1 113 rfl rfl
set_option maxRecDepth 10000 in
theorem go_RX4_3 : Cond.methodLink RX4 3 Lib.objectInit ∈ gTb := gmt1 219 rfl rfl
set_option maxRecDepth 10000 in
theorem go_RX5_3 : Cond.methodLink RX5 3 Lib.objectInit ∈ gTb := gmt1 173 rfl rfl
set_option maxRecDepth 10000 in
theorem go_RX6_3 : Cond.methodLink RX6 3 Lib.objectInit ∈ gTb := gmt1 53 rfl rfl
set_option maxRecDepth 10000 in
theorem go_RX7_3 : Cond.methodLink RX7 3 Lib.objectInit ∈ gTb := gmt1 59 rfl rfl
set_option maxRecDepth 10000 in
theorem go_RX8_3 : Cond.methodLink RX8 3 Lib.objectInit ∈ gTb := gmt2 66 rfl rfl
set_option maxRecDepth 10000 in
theorem go_RX9_3 : Cond.methodLink RX9 3 Lib.objectInit ∈ gTb := gmt2 7 rfl rfl
set_option maxRecDepth 10000 in
theorem go_RX10_3 : Cond.methodLink RX10 3 Lib.objectInit ∈ gTb := gmt1 35 rfl rfl
set_option maxRecDepth 10000 in
theorem go_RX12_1 : Cond.methodLink RX12 1 Lib.objectInit ∈ gTb := gmt6 4 rfl rfl
set_option maxRecDepth 10000 in
theorem gob_1 : Cond.instanceMethod Lib.objectInit ∈ gTb := gmt1 28 rfl rfl
set_option maxRecDepth 10000 in
theorem gob_2 : Cond.code Lib.objectInit ⟨#[0xb1]⟩ 1 none ∈ gTb := gmt1 29 rfl rfl
set_option maxRecDepth 10000 in
theorem gim_X0_init : Cond.instanceMethod yX0_init ∈ gTb := gmt1 117 rfl rfl
set_option maxRecDepth 10000 in
theorem gim_X2_init : Cond.instanceMethod yX2_init ∈ gTb := gmt1 180 rfl rfl
set_option maxRecDepth 10000 in
theorem gim_X3_init : Cond.instanceMethod yX3_init ∈ gTb := gmt1 111 rfl rfl
set_option maxRecDepth 10000 in
theorem gim_X6_init : Cond.instanceMethod yX6_init ∈ gTb := gmt1 51 rfl rfl
set_option maxRecDepth 10000 in
theorem gim_X8_init : Cond.instanceMethod yX8_init ∈ gTb := gmt2 64 rfl rfl
set_option maxRecDepth 10000 in
theorem gim_X10_init : Cond.instanceMethod yX10_init ∈ gTb := gmt1 33 rfl rfl
set_option maxRecDepth 10000 in
theorem gst_X11_isDay : Cond.static yX11_isDay ∈ gTb := gmt2 219 rfl rfl
set_option maxRecDepth 10000 in
theorem gcp_RX2_21 : Cond.methodLink RX2 21 arraycopyName ∈ gTb := gmt4 179 rfl rfl
set_option maxRecDepth 10000 in
theorem gcp_n : Cond.native arraycopyName ∈ gTb := gmt4 181 rfl rfl
set_option maxRecDepth 10000 in
theorem gcp_s : Cond.static arraycopyName ∈ gTb := gmt4 180 rfl rfl
set_option maxRecDepth 10000 in
theorem gcp_i : Cond.initialized "java/lang/System" ∈ gTb := gmt1 20 rfl rfl
set_option maxRecDepth 10000 in
theorem gfs_RX0_9 : Cond.fieldLink RX0 9 "FeastRules$Almanac" "AHEAD" "[I" ∈ gTb := gmt2 191 rfl rfl
set_option maxRecDepth 10000 in
theorem gfs_RJ0_9 : Cond.fieldLink RJ0 9 "java/lang/String" "value" "[B" ∈ gTb := gmt8 173 rfl rfl
set_option maxRecDepth 10000 in
theorem gfs_RJ0_15 : Cond.fieldLink RJ0 15 "java/lang/String" "coder" "B" ∈ gTb := gmt8 174 rfl rfl
set_option maxRecDepth 10000 in
theorem gfs_RJ0_38 : Cond.fieldLink RJ0 38 "java/lang/String" "COMPACT_STRINGS" "Z" ∈ gTb := gmt3 107 rfl rfl
set_option maxRecDepth 10000 in
theorem gfs_RJ0_1053 : Cond.fieldLink RJ0 1053 "jdk/internal/util/Preconditions" "SIOOBE_FORMATTER" "Ljava/util/function/BiFunction;" ∈ gTb := gmt3 123 rfl rfl
set_option maxRecDepth 10000 in
theorem gfs_RJ2_44 : Cond.fieldLink RJ2 44 "java/lang/StringUTF16" "$assertionsDisabled" "Z" ∈ gTb := gmt3 141 rfl rfl
set_option maxRecDepth 10000 in
theorem gfs_RJ2_59 : Cond.fieldLink RJ2 59 "java/lang/StringUTF16" "HI_BYTE_SHIFT" "I" ∈ gTb := gmt3 143 rfl rfl
set_option maxRecDepth 10000 in
theorem gfs_RJ2_63 : Cond.fieldLink RJ2 63 "java/lang/StringUTF16" "LO_BYTE_SHIFT" "I" ∈ gTb := gmt3 145 rfl rfl
