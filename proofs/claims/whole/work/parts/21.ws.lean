/-! The words on the classes' fields: printed by program. -/
set_option maxRecDepth 100000 in
theorem wsIn_0 : ∀ w ∈ u_ws RX0 TX0 6, w ∈ WSg := List.forall_mem_cons.mpr ⟨mem_g (i := 105) rfl rfl, List.forall_mem_cons.mpr ⟨mem_g (i := 107) rfl rfl, List.forall_mem_cons.mpr ⟨mem_g (i := 109) rfl rfl, List.forall_mem_cons.mpr ⟨mem_g (i := 111) rfl rfl, List.forall_mem_cons.mpr ⟨mem_g (i := 113) rfl rfl, List.forall_mem_cons.mpr ⟨mem_g (i := 115) rfl rfl, fun _ h => absurd h List.not_mem_nil⟩⟩⟩⟩⟩⟩
set_option maxRecDepth 100000 in
theorem inst_0 : Cond.instantiable RX0 6 ∈ WSg := mem_g (i := 84) rfl rfl
set_option maxRecDepth 100000 in
theorem ini_0 : Cond.initialized RX0 ∈ WSg := mem_g (i := 60) rfl rfl
set_option maxRecDepth 100000 in
theorem wsIn_1 : ∀ w ∈ u_ws RX1 TX1 6, w ∈ WSg := List.forall_mem_cons.mpr ⟨mem_g (i := 206) rfl rfl, List.forall_mem_cons.mpr ⟨mem_g (i := 208) rfl rfl, List.forall_mem_cons.mpr ⟨mem_g (i := 210) rfl rfl, List.forall_mem_cons.mpr ⟨mem_g (i := 212) rfl rfl, List.forall_mem_cons.mpr ⟨mem_g (i := 214) rfl rfl, List.forall_mem_cons.mpr ⟨mem_g (i := 216) rfl rfl, fun _ h => absurd h List.not_mem_nil⟩⟩⟩⟩⟩⟩
set_option maxRecDepth 100000 in
theorem inst_1 : Cond.instantiable RX1 6 ∈ WSg := mem_g (i := 189) rfl rfl
set_option maxRecDepth 100000 in
theorem ini_1 : Cond.initialized RX1 ∈ WSg := mem_g (i := 66) rfl rfl
set_option maxRecDepth 100000 in
theorem wsIn_2 : ∀ w ∈ u_ws RX2 TX2 1, w ∈ WSg := List.forall_mem_cons.mpr ⟨mem_g (i := 220) rfl rfl, fun _ h => absurd h List.not_mem_nil⟩
set_option maxRecDepth 100000 in
theorem inst_2 : Cond.instantiable RX2 1 ∈ WSg := mem_g (i := 182) rfl rfl
set_option maxRecDepth 100000 in
theorem ini_2 : Cond.initialized RX2 ∈ WSg := mem_g (i := 65) rfl rfl
set_option maxRecDepth 100000 in
theorem wsIn_3 : ∀ w ∈ u_ws RX3 TX3 2, w ∈ WSg := List.forall_mem_cons.mpr ⟨mem_g (i := 154) rfl rfl, List.forall_mem_cons.mpr ⟨mem_g (i := 156) rfl rfl, fun _ h => absurd h List.not_mem_nil⟩⟩
set_option maxRecDepth 100000 in
theorem inst_3 : Cond.instantiable RX3 2 ∈ WSg := mem_g (i := 145) rfl rfl
set_option maxRecDepth 100000 in
theorem ini_3 : Cond.initialized RX3 ∈ WSg := mem_g (i := 63) rfl rfl
set_option maxRecDepth 100000 in
theorem wsIn_4 : ∀ w ∈ u_ws RX5 TX5 5, w ∈ WSg := List.forall_mem_cons.mpr ⟨mem_g (i := 170) rfl rfl, List.forall_mem_cons.mpr ⟨mem_g (i := 172) rfl rfl, List.forall_mem_cons.mpr ⟨mem_g (i := 174) rfl rfl, List.forall_mem_cons.mpr ⟨mem_g (i := 176) rfl rfl, List.forall_mem_cons.mpr ⟨mem_g (i := 178) rfl rfl, fun _ h => absurd h List.not_mem_nil⟩⟩⟩⟩⟩
set_option maxRecDepth 100000 in
theorem inst_4 : Cond.instantiable RX5 5 ∈ WSg := mem_g (i := 160) rfl rfl
set_option maxRecDepth 100000 in
theorem ini_4 : Cond.initialized RX5 ∈ WSg := mem_g (i := 64) rfl rfl
set_option maxRecDepth 100000 in
theorem wsIn_5 : ∀ w ∈ u_ws RX6 TX6 5, w ∈ WSg := List.forall_mem_cons.mpr ⟨mem_g (i := 131) rfl rfl, List.forall_mem_cons.mpr ⟨mem_g (i := 133) rfl rfl, List.forall_mem_cons.mpr ⟨mem_g (i := 135) rfl rfl, List.forall_mem_cons.mpr ⟨mem_g (i := 137) rfl rfl, List.forall_mem_cons.mpr ⟨mem_g (i := 139) rfl rfl, fun _ h => absurd h List.not_mem_nil⟩⟩⟩⟩⟩
set_option maxRecDepth 100000 in
theorem inst_5 : Cond.instantiable RX6 5 ∈ WSg := mem_g (i := 121) rfl rfl
set_option maxRecDepth 100000 in
theorem ini_5 : Cond.initialized RX6 ∈ WSg := mem_g (i := 62) rfl rfl
set_option maxRecDepth 100000 in
theorem wsIn_6 : ∀ w ∈ u_ws RX7 TX7 11, w ∈ WSg := List.forall_mem_cons.mpr ⟨mem_g (i := 234) rfl rfl, List.forall_mem_cons.mpr ⟨mem_g (i := 236) rfl rfl, List.forall_mem_cons.mpr ⟨mem_g (i := 238) rfl rfl, List.forall_mem_cons.mpr ⟨mem_g (i := 240) rfl rfl, List.forall_mem_cons.mpr ⟨mem_g (i := 242) rfl rfl, List.forall_mem_cons.mpr ⟨mem_g (i := 244) rfl rfl, List.forall_mem_cons.mpr ⟨mem_g (i := 246) rfl rfl, List.forall_mem_cons.mpr ⟨mem_g (i := 248) rfl rfl, List.forall_mem_cons.mpr ⟨mem_g (i := 250) rfl rfl, List.forall_mem_cons.mpr ⟨mem_g (i := 252) rfl rfl, List.forall_mem_cons.mpr ⟨mem_g (i := 254) rfl rfl, fun _ h => absurd h List.not_mem_nil⟩⟩⟩⟩⟩⟩⟩⟩⟩⟩⟩
set_option maxRecDepth 100000 in
theorem inst_6 : Cond.instantiable RX7 11 ∈ WSg := mem_g (i := 76) rfl rfl
set_option maxRecDepth 100000 in
theorem ini_6 : Cond.initialized RX7 ∈ WSg := mem_g (i := 59) rfl rfl
set_option maxRecDepth 100000 in
theorem wsIn_7 : ∀ w ∈ u_ws RX8 TX8 31, w ∈ WSg := List.forall_mem_cons.mpr ⟨mem_g (i := 854) rfl rfl, List.forall_mem_cons.mpr ⟨mem_g (i := 856) rfl rfl, List.forall_mem_cons.mpr ⟨mem_g (i := 858) rfl rfl, List.forall_mem_cons.mpr ⟨mem_g (i := 860) rfl rfl, List.forall_mem_cons.mpr ⟨mem_g (i := 862) rfl rfl, List.forall_mem_cons.mpr ⟨mem_g (i := 864) rfl rfl, List.forall_mem_cons.mpr ⟨mem_g (i := 866) rfl rfl, List.forall_mem_cons.mpr ⟨mem_g (i := 868) rfl rfl, List.forall_mem_cons.mpr ⟨mem_g (i := 870) rfl rfl, List.forall_mem_cons.mpr ⟨mem_g (i := 872) rfl rfl, List.forall_mem_cons.mpr ⟨mem_g (i := 874) rfl rfl, List.forall_mem_cons.mpr ⟨mem_g (i := 876) rfl rfl, List.forall_mem_cons.mpr ⟨mem_g (i := 878) rfl rfl, List.forall_mem_cons.mpr ⟨mem_g (i := 880) rfl rfl, List.forall_mem_cons.mpr ⟨mem_g (i := 882) rfl rfl, List.forall_mem_cons.mpr ⟨mem_g (i := 884) rfl rfl, List.forall_mem_cons.mpr ⟨mem_g (i := 886) rfl rfl, List.forall_mem_cons.mpr ⟨mem_g (i := 888) rfl rfl, List.forall_mem_cons.mpr ⟨mem_g (i := 890) rfl rfl, List.forall_mem_cons.mpr ⟨mem_g (i := 892) rfl rfl, List.forall_mem_cons.mpr ⟨mem_g (i := 894) rfl rfl, List.forall_mem_cons.mpr ⟨mem_g (i := 896) rfl rfl, List.forall_mem_cons.mpr ⟨mem_g (i := 898) rfl rfl, List.forall_mem_cons.mpr ⟨mem_g (i := 900) rfl rfl, List.forall_mem_cons.mpr ⟨mem_g (i := 902) rfl rfl, List.forall_mem_cons.mpr ⟨mem_g (i := 904) rfl rfl, List.forall_mem_cons.mpr ⟨mem_g (i := 906) rfl rfl, List.forall_mem_cons.mpr ⟨mem_g (i := 908) rfl rfl, List.forall_mem_cons.mpr ⟨mem_g (i := 910) rfl rfl, List.forall_mem_cons.mpr ⟨mem_g (i := 912) rfl rfl, List.forall_mem_cons.mpr ⟨mem_g (i := 914) rfl rfl, fun _ h => absurd h List.not_mem_nil⟩⟩⟩⟩⟩⟩⟩⟩⟩⟩⟩⟩⟩⟩⟩⟩⟩⟩⟩⟩⟩⟩⟩⟩⟩⟩⟩⟩⟩⟩⟩
set_option maxRecDepth 100000 in
theorem inst_7 : Cond.instantiable RX8 31 ∈ WSg := mem_g (i := 811) rfl rfl
set_option maxRecDepth 100000 in
theorem ini_7 : Cond.initialized RX8 ∈ WSg := mem_g (i := 67) rfl rfl
set_option maxRecDepth 100000 in
theorem wg_arI : Cond.arrayClass .int ∈ WSg := mem_g (i := 118) rfl rfl
set_option maxRecDepth 100000 in
theorem wg_arZ : Cond.arrayClass .boolean ∈ WSg := mem_g (i := 142) rfl rfl
set_option maxRecDepth 100000 in
theorem wg_arC : Cond.arrayClass .char ∈ WSg := mem_g (i := 143) rfl rfl
set_option maxRecDepth 100000 in
theorem wg_arL : Cond.arrayClass .long ∈ WSg := mem_g (i := 917) rfl rfl
set_option maxRecDepth 100000 in
theorem wg_cpN : Cond.native arr0 ∈ WSg := mem_g (i := 290) rfl rfl
set_option maxRecDepth 100000 in
theorem wg_cpS : Cond.static arr0 ∈ WSg := mem_g (i := 289) rfl rfl
set_option maxRecDepth 100000 in
theorem wg_cpI : Cond.initialized "java/lang/System" ∈ WSg := mem_g (i := 68) rfl rfl
set_option maxRecDepth 100000 in
theorem wg_maI : Cond.initialized "java/lang/Math" ∈ WSg := mem_g (i := 61) rfl rfl
set_option maxRecDepth 100000 in
theorem wg_mxS : Cond.static Lib.Math.max.name ∈ WSg := mem_g (i := 97) rfl rfl
set_option maxRecDepth 100000 in
theorem wg_mnS : Cond.static Lib.Math.min.name ∈ WSg := mem_g (i := 94) rfl rfl
set_option maxRecDepth 100000 in
theorem wg_obM : Cond.instanceMethod Lib.objectInit ∈ WSg := mem_g (i := 81) rfl rfl
set_option maxRecDepth 100000 in
theorem wg_mxC : Cond.code Lib.Math.max.name Lib.Math.max.code 2 (some .int) ∈ WSg := mem_g (i := 98) rfl rfl
set_option maxRecDepth 100000 in
theorem wg_mnC : Cond.code Lib.Math.min.name Lib.Math.min.code 2 (some .int) ∈ WSg := mem_g (i := 95) rfl rfl
set_option maxRecDepth 100000 in
theorem wg_obC : Cond.code Lib.objectInit ⟨#[0xb1]⟩ 1 none ∈ WSg := mem_g (i := 82) rfl rfl
