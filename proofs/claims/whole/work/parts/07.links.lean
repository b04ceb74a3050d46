def pm_fT (ci : Nat) : u_T := match ci with
  | 0 => TX0 | 1 => TX1 | 2 => TX2 | 3 => TX3 | 4 => TX4 | 5 => TX5 | 6 => TX6 | 7 => TX7 | 8 => TX8 | 9 => TX9 | _ => TX10
/-- names of methods, those of the JDK and of the law too -/
def pm_Yp (k : Nat) : MethodName := if k = 1001 then Lib.Math.max.name else if k = 1002 then Lib.Math.min.name else if k = 1003 then arraycopyName else if k = 1004 then yJ0_length_8abf5 else if k = 1005 then yJ0_charAt_5068e else if k = 1006 then objectInit else if k = 1007 then yL_constant else pm_Y k
def pm_mq (o : Nat) (q : Nat × Nat × Nat) : Prop := (q.2.2 = 0 → Cond.methodLink (pm_cn o) q.1 (pm_Yp q.2.1) ∈ pm_ws) ∧ (q.2.2 = 1 → Cond.methodLinkNest (pm_cn o) q.1 (pm_Yp q.2.1) RX9 ∈ pm_nw) ∧ (q.2.1 < 1000 → pm_mk q.2.1 ∧ (q.2.2 = 1 → pm_K q.2.1 = 1 ∨ pm_K q.2.1 = 2)) ∧ q.2.2 < 2
def pm_fq (o : Nat) (q : Nat × Nat × Nat) : Prop := Cond.fieldLink (pm_cn o) q.1 (pm_fT q.2.1 q.2.2).1 (pm_fT q.2.1 q.2.2).2.1 (pm_fT q.2.1 q.2.2).2.2.1 ∈ pm_ws ∧ q.2.2 < pm_nf q.2.1 ∧ q.2.1 < 11 ∧ q.2.2 < 64
def pm_cq (o : Nat) (q : Nat × Nat) : Prop := Cond.classLink (pm_cn o) q.1 (pm_cn q.2) ∈ pm_ws ∧ q.2 < 11
def pm_aq (o : Nat) (q : Nat) : Prop := Cond.classLink (pm_cn o) q RX7 ∈ pm_ws
/-- a static row: 1 PRIMES, 2 TAILS -/
def pm_gf (j : Nat) : String × String := if j = 1 then (RX9, "PRIMES") else (RX3, "TAILS")
def pm_gq (o : Nat) (q : Nat × Nat × Nat) : Prop := (q.2.2 = 0 → Cond.fieldLink (pm_cn o) q.1 (pm_gf q.2.1).1 (pm_gf q.2.1).2 "[I" ∈ pm_ws) ∧ (q.2.2 = 1 → Cond.fieldLinkNest (pm_cn o) q.1 (pm_gf q.2.1).1 (pm_gf q.2.1).2 "[I" RX9 ∈ pm_nw) ∧ q.2.2 < 2 ∧ (q.2.1 = 1 ∨ q.2.1 = 2)
/-- a constant: a number; or a text, of which the tables say nothing that a later state keeps -/
def pm_lq (o : Nat) (q : Nat × Nat × Nat) : Prop := q.2.1 = 0 → Cond.constant (pm_cn o) q.1 (Int32.ofInt (q.2.2 : Int)) ∈ pm_ws
set_option maxRecDepth 20000 in
theorem mq_0_0 : pm_mq 0 (3, 1006, 0) := ⟨fun _ => pm_in1 86 (by rfl) rfl, fun h => absurd h (by decide), fun h => absurd h (by decide), by decide⟩
set_option maxRecDepth 20000 in
theorem mq_0_1 : pm_mq 0 (11, 74, 1) := ⟨fun h => absurd h (by decide), fun _ => pn_in1 88 (by rfl) rfl, fun _ => ⟨mk_74, fun _ => by decide⟩, by decide⟩
set_option maxRecDepth 20000 in
theorem mq_0_2 : pm_mq 0 (20, 81, 1) := ⟨fun h => absurd h (by decide), fun _ => pn_in1 91 (by rfl) rfl, fun _ => ⟨mk_81, fun _ => by decide⟩, by decide⟩
set_option maxRecDepth 20000 in
theorem mq_0_3 : pm_mq 0 (55, 1001, 0) := ⟨fun _ => pm_in4 31 (by rfl) rfl, fun h => absurd h (by decide), fun h => absurd h (by decide), by decide⟩
set_option maxRecDepth 20000 in
theorem mq_0_4 : pm_mq 0 (64, 72, 0) := ⟨fun _ => pm_in3 207 (by rfl) rfl, fun h => absurd h (by decide), fun _ => ⟨mk_72, fun h => absurd h (by decide)⟩, by decide⟩
set_option maxRecDepth 20000 in
theorem mq_0_5 : pm_mq 0 (70, 82, 0) := ⟨fun _ => pm_in4 84 (by rfl) rfl, fun h => absurd h (by decide), fun _ => ⟨mk_82, fun h => absurd h (by decide)⟩, by decide⟩
set_option maxRecDepth 20000 in
theorem mq_0_6 : pm_mq 0 (74, 1, 0) := ⟨fun _ => pm_in4 113 (by rfl) rfl, fun h => absurd h (by decide), fun _ => ⟨mk_1, fun h => absurd h (by decide)⟩, by decide⟩
set_option maxRecDepth 20000 in
theorem mq_0_7 : pm_mq 0 (78, 280, 0) := ⟨fun _ => pm_in3 233 (by rfl) rfl, fun h => absurd h (by decide), fun _ => ⟨mk_280, fun h => absurd h (by decide)⟩, by decide⟩
set_option maxRecDepth 20000 in
theorem mq_0_8 : pm_mq 0 (84, 78, 0) := ⟨fun _ => pm_in4 149 (by rfl) rfl, fun h => absurd h (by decide), fun _ => ⟨mk_78, fun h => absurd h (by decide)⟩, by decide⟩
set_option maxRecDepth 20000 in
theorem mq_0_9 : pm_mq 0 (88, 90, 0) := ⟨fun _ => pm_in4 150 (by rfl) rfl, fun h => absurd h (by decide), fun _ => ⟨mk_90, fun h => absurd h (by decide)⟩, by decide⟩
set_option maxRecDepth 20000 in
theorem mq_0_10 : pm_mq 0 (91, 85, 0) := ⟨fun _ => pm_in4 111 (by rfl) rfl, fun h => absurd h (by decide), fun _ => ⟨mk_85, fun h => absurd h (by decide)⟩, by decide⟩
set_option maxRecDepth 20000 in
theorem mq_0_11 : pm_mq 0 (95, 73, 0) := ⟨fun _ => pm_in4 112 (by rfl) rfl, fun h => absurd h (by decide), fun _ => ⟨mk_73, fun h => absurd h (by decide)⟩, by decide⟩
set_option maxRecDepth 20000 in
theorem mq_0_12 : pm_mq 0 (98, 154, 1) := ⟨fun h => absurd h (by decide), fun _ => pn_in3 202 (by rfl) rfl, fun _ => ⟨mk_154, fun _ => by decide⟩, by decide⟩
set_option maxRecDepth 20000 in
theorem mq_0_13 : pm_mq 0 (104, 12, 0) := ⟨fun _ => pm_in3 203 (by rfl) rfl, fun h => absurd h (by decide), fun _ => ⟨mk_12, fun h => absurd h (by decide)⟩, by decide⟩
set_option maxRecDepth 20000 in
theorem mq_0_14 : pm_mq 0 (107, 91, 0) := ⟨fun _ => pm_in4 183 (by rfl) rfl, fun h => absurd h (by decide), fun _ => ⟨mk_91, fun h => absurd h (by decide)⟩, by decide⟩
set_option maxRecDepth 20000 in
theorem mq_0_15 : pm_mq 0 (111, 84, 0) := ⟨fun _ => pm_in4 106 (by rfl) rfl, fun h => absurd h (by decide), fun _ => ⟨mk_84, fun h => absurd h (by decide)⟩, by decide⟩
set_option maxRecDepth 20000 in
theorem mq_0_16 : pm_mq 0 (114, 9, 0) := ⟨fun _ => pm_in4 107 (by rfl) rfl, fun h => absurd h (by decide), fun _ => ⟨mk_9, fun h => absurd h (by decide)⟩, by decide⟩
set_option maxRecDepth 20000 in
theorem mq_0_17 : pm_mq 0 (120, 79, 0) := ⟨fun _ => pm_in4 25 (by rfl) rfl, fun h => absurd h (by decide), fun _ => ⟨mk_79, fun h => absurd h (by decide)⟩, by decide⟩
set_option maxRecDepth 20000 in
theorem mq_0_18 : pm_mq 0 (123, 75, 0) := ⟨fun _ => pm_in4 24 (by rfl) rfl, fun h => absurd h (by decide), fun _ => ⟨mk_75, fun h => absurd h (by decide)⟩, by decide⟩
set_option maxRecDepth 20000 in
theorem mq_0_19 : pm_mq 0 (127, 15, 0) := ⟨fun _ => pm_in3 216 (by rfl) rfl, fun h => absurd h (by decide), fun _ => ⟨mk_15, fun h => absurd h (by decide)⟩, by decide⟩
set_option maxRecDepth 20000 in
theorem mq_0_20 : pm_mq 0 (131, 16, 0) := ⟨fun _ => pm_in3 225 (by rfl) rfl, fun h => absurd h (by decide), fun _ => ⟨mk_16, fun h => absurd h (by decide)⟩, by decide⟩
set_option maxRecDepth 20000 in
theorem mq_0_21 : pm_mq 0 (134, 17, 0) := ⟨fun _ => pm_in3 229 (by rfl) rfl, fun h => absurd h (by decide), fun _ => ⟨mk_17, fun h => absurd h (by decide)⟩, by decide⟩
set_option maxRecDepth 20000 in
theorem mq_0_22 : pm_mq 0 (138, 18, 0) := ⟨fun _ => pm_in3 236 (by rfl) rfl, fun h => absurd h (by decide), fun _ => ⟨mk_18, fun h => absurd h (by decide)⟩, by decide⟩
set_option maxRecDepth 20000 in
theorem mq_0_23 : pm_mq 0 (141, 89, 0) := ⟨fun _ => pm_in3 220 (by rfl) rfl, fun h => absurd h (by decide), fun _ => ⟨mk_89, fun h => absurd h (by decide)⟩, by decide⟩
set_option maxRecDepth 20000 in
theorem mqs_0 : ∀ q ∈ pm_mls.getD 0 [], pm_mq 0 q := List.forall_mem_cons.mpr ⟨mq_0_0, List.forall_mem_cons.mpr ⟨mq_0_1, List.forall_mem_cons.mpr ⟨mq_0_2, List.forall_mem_cons.mpr ⟨mq_0_3, List.forall_mem_cons.mpr ⟨mq_0_4, List.forall_mem_cons.mpr ⟨mq_0_5, List.forall_mem_cons.mpr ⟨mq_0_6, List.forall_mem_cons.mpr ⟨mq_0_7, List.forall_mem_cons.mpr ⟨mq_0_8, List.forall_mem_cons.mpr ⟨mq_0_9, List.forall_mem_cons.mpr ⟨mq_0_10, List.forall_mem_cons.mpr ⟨mq_0_11, List.forall_mem_cons.mpr ⟨mq_0_12, List.forall_mem_cons.mpr ⟨mq_0_13, List.forall_mem_cons.mpr ⟨mq_0_14, List.forall_mem_cons.mpr ⟨mq_0_15, List.forall_mem_cons.mpr ⟨mq_0_16, List.forall_mem_cons.mpr ⟨mq_0_17, List.forall_mem_cons.mpr ⟨mq_0_18, List.forall_mem_cons.mpr ⟨mq_0_19, List.forall_mem_cons.mpr ⟨mq_0_20, List.forall_mem_cons.mpr ⟨mq_0_21, List.forall_mem_cons.mpr ⟨mq_0_22, List.forall_mem_cons.mpr ⟨mq_0_23, fun _ h => absurd h List.not_mem_nil⟩⟩⟩⟩⟩⟩⟩⟩⟩⟩⟩⟩⟩⟩⟩⟩⟩⟩⟩⟩⟩⟩⟩⟩
set_option maxRecDepth 20000 in
theorem mq_1_0 : pm_mq 1 (5, 1006, 0) := ⟨fun _ => pm_in2 7 (by rfl) rfl, fun h => absurd h (by decide), fun h => absurd h (by decide), by decide⟩
set_option maxRecDepth 20000 in
theorem mq_1_1 : pm_mq 1 (13, 50, 1) := ⟨fun h => absurd h (by decide), fun _ => pn_in2 10 (by rfl) rfl, fun _ => ⟨mk_50, fun _ => by decide⟩, by decide⟩
set_option maxRecDepth 20000 in
theorem mq_1_2 : pm_mq 1 (81, 83, 0) := ⟨fun _ => pm_in4 213 (by rfl) rfl, fun h => absurd h (by decide), fun _ => ⟨mk_83, fun h => absurd h (by decide)⟩, by decide⟩
set_option maxRecDepth 20000 in
theorem mq_1_3 : pm_mq 1 (85, 4, 0) := ⟨fun _ => pm_in4 214 (by rfl) rfl, fun h => absurd h (by decide), fun _ => ⟨mk_4, fun h => absurd h (by decide)⟩, by decide⟩
set_option maxRecDepth 20000 in
theorem mq_1_4 : pm_mq 1 (88, 23, 0) := ⟨fun _ => pm_in4 215 (by rfl) rfl, fun h => absurd h (by decide), fun _ => ⟨mk_23, fun h => absurd h (by decide)⟩, by decide⟩
set_option maxRecDepth 20000 in
theorem mq_1_5 : pm_mq 1 (92, 26, 0) := ⟨fun _ => pm_in4 221 (by rfl) rfl, fun h => absurd h (by decide), fun _ => ⟨mk_26, fun h => absurd h (by decide)⟩, by decide⟩
set_option maxRecDepth 20000 in
theorem mq_1_6 : pm_mq 1 (96, 29, 0) := ⟨fun _ => pm_in5 1 (by rfl) rfl, fun h => absurd h (by decide), fun _ => ⟨mk_29, fun h => absurd h (by decide)⟩, by decide⟩
set_option maxRecDepth 20000 in
theorem mq_1_7 : pm_mq 1 (99, 27, 0) := ⟨fun _ => pm_in4 225 (by rfl) rfl, fun h => absurd h (by decide), fun _ => ⟨mk_27, fun h => absurd h (by decide)⟩, by decide⟩
set_option maxRecDepth 20000 in
theorem mq_1_8 : pm_mq 1 (103, 34, 0) := ⟨fun _ => pm_in5 13 (by rfl) rfl, fun h => absurd h (by decide), fun _ => ⟨mk_34, fun h => absurd h (by decide)⟩, by decide⟩
set_option maxRecDepth 20000 in
theorem mq_1_9 : pm_mq 1 (106, 32, 0) := ⟨fun _ => pm_in5 107 (by rfl) rfl, fun h => absurd h (by decide), fun _ => ⟨mk_32, fun h => absurd h (by decide)⟩, by decide⟩
set_option maxRecDepth 20000 in
theorem mq_1_10 : pm_mq 1 (110, 24, 0) := ⟨fun _ => pm_in5 111 (by rfl) rfl, fun h => absurd h (by decide), fun _ => ⟨mk_24, fun h => absurd h (by decide)⟩, by decide⟩
set_option maxRecDepth 20000 in
theorem mq_1_11 : pm_mq 1 (114, 280, 0) := ⟨fun _ => pm_in4 219 (by rfl) rfl, fun h => absurd h (by decide), fun _ => ⟨mk_280, fun h => absurd h (by decide)⟩, by decide⟩
set_option maxRecDepth 20000 in
theorem mq_1_12 : pm_mq 1 (120, 1003, 0) := ⟨fun _ => pm_in4 229 (by rfl) rfl, fun h => absurd h (by decide), fun h => absurd h (by decide), by decide⟩
set_option maxRecDepth 20000 in
theorem mq_1_13 : pm_mq 1 (129, 154, 1) := ⟨fun h => absurd h (by decide), fun _ => pn_in4 220 (by rfl) rfl, fun _ => ⟨mk_154, fun _ => by decide⟩, by decide⟩
set_option maxRecDepth 20000 in
theorem mq_1_14 : pm_mq 1 (140, 78, 0) := ⟨fun _ => pm_in5 115 (by rfl) rfl, fun h => absurd h (by decide), fun _ => ⟨mk_78, fun h => absurd h (by decide)⟩, by decide⟩
set_option maxRecDepth 20000 in
theorem mq_1_15 : pm_mq 1 (146, 82, 0) := ⟨fun _ => pm_in5 116 (by rfl) rfl, fun h => absurd h (by decide), fun _ => ⟨mk_82, fun h => absurd h (by decide)⟩, by decide⟩
set_option maxRecDepth 20000 in
theorem mq_1_16 : pm_mq 1 (150, 90, 0) := ⟨fun _ => pm_in5 117 (by rfl) rfl, fun h => absurd h (by decide), fun _ => ⟨mk_90, fun h => absurd h (by decide)⟩, by decide⟩
set_option maxRecDepth 20000 in
theorem mq_1_17 : pm_mq 1 (153, 25, 0) := ⟨fun _ => pm_in4 232 (by rfl) rfl, fun h => absurd h (by decide), fun _ => ⟨mk_25, fun h => absurd h (by decide)⟩, by decide⟩
set_option maxRecDepth 20000 in
theorem mq_1_18 : pm_mq 1 (157, 73, 0) := ⟨fun _ => pm_in4 235 (by rfl) rfl, fun h => absurd h (by decide), fun _ => ⟨mk_73, fun h => absurd h (by decide)⟩, by decide⟩
set_option maxRecDepth 20000 in
theorem mq_1_19 : pm_mq 1 (163, 72, 0) := ⟨fun _ => pm_in5 0 (by rfl) rfl, fun h => absurd h (by decide), fun _ => ⟨mk_72, fun h => absurd h (by decide)⟩, by decide⟩
set_option maxRecDepth 20000 in
theorem mq_1_20 : pm_mq 1 (166, 28, 0) := ⟨fun _ => pm_in4 236 (by rfl) rfl, fun h => absurd h (by decide), fun _ => ⟨mk_28, fun h => absurd h (by decide)⟩, by decide⟩
set_option maxRecDepth 20000 in
theorem mq_1_21 : pm_mq 1 (173, 30, 0) := ⟨fun _ => pm_in5 5 (by rfl) rfl, fun h => absurd h (by decide), fun _ => ⟨mk_30, fun h => absurd h (by decide)⟩, by decide⟩
set_option maxRecDepth 20000 in
theorem mq_1_22 : pm_mq 1 (177, 31, 0) := ⟨fun _ => pm_in5 9 (by rfl) rfl, fun h => absurd h (by decide), fun _ => ⟨mk_31, fun h => absurd h (by decide)⟩, by decide⟩
set_option maxRecDepth 20000 in
theorem mq_1_23 : pm_mq 1 (181, 1001, 0) := ⟨fun _ => pm_in5 48 (by rfl) rfl, fun h => absurd h (by decide), fun h => absurd h (by decide), by decide⟩
set_option maxRecDepth 20000 in
theorem mq_1_24 : pm_mq 1 (186, 35, 0) := ⟨fun _ => pm_in5 17 (by rfl) rfl, fun h => absurd h (by decide), fun _ => ⟨mk_35, fun h => absurd h (by decide)⟩, by decide⟩
set_option maxRecDepth 20000 in
theorem mq_1_25 : pm_mq 1 (190, 51, 0) := ⟨fun _ => pm_in5 20 (by rfl) rfl, fun h => absurd h (by decide), fun _ => ⟨mk_51, fun h => absurd h (by decide)⟩, by decide⟩
set_option maxRecDepth 20000 in
theorem mq_1_26 : pm_mq 1 (194, 33, 0) := ⟨fun _ => pm_in5 45 (by rfl) rfl, fun h => absurd h (by decide), fun _ => ⟨mk_33, fun h => absurd h (by decide)⟩, by decide⟩
set_option maxRecDepth 20000 in
theorem mq_1_27 : pm_mq 1 (198, 1002, 0) := ⟨fun _ => pm_in5 49 (by rfl) rfl, fun h => absurd h (by decide), fun h => absurd h (by decide), by decide⟩
set_option maxRecDepth 20000 in
theorem mq_1_28 : pm_mq 1 (201, 39, 0) := ⟨fun _ => pm_in5 50 (by rfl) rfl, fun h => absurd h (by decide), fun _ => ⟨mk_39, fun h => absurd h (by decide)⟩, by decide⟩
set_option maxRecDepth 20000 in
theorem mq_1_29 : pm_mq 1 (207, 36, 0) := ⟨fun _ => pm_in5 58 (by rfl) rfl, fun h => absurd h (by decide), fun _ => ⟨mk_36, fun h => absurd h (by decide)⟩, by decide⟩
set_option maxRecDepth 20000 in
theorem mq_1_30 : pm_mq 1 (210, 40, 0) := ⟨fun _ => pm_in5 87 (by rfl) rfl, fun h => absurd h (by decide), fun _ => ⟨mk_40, fun h => absurd h (by decide)⟩, by decide⟩
set_option maxRecDepth 20000 in
theorem mq_1_31 : pm_mq 1 (214, 43, 0) := ⟨fun _ => pm_in5 99 (by rfl) rfl, fun h => absurd h (by decide), fun _ => ⟨mk_43, fun h => absurd h (by decide)⟩, by decide⟩
set_option maxRecDepth 20000 in
theorem mq_1_32 : pm_mq 1 (218, 37, 0) := ⟨fun _ => pm_in5 62 (by rfl) rfl, fun h => absurd h (by decide), fun _ => ⟨mk_37, fun h => absurd h (by decide)⟩, by decide⟩
set_option maxRecDepth 20000 in
theorem mq_1_33 : pm_mq 1 (222, 38, 0) := ⟨fun _ => pm_in5 75 (by rfl) rfl, fun h => absurd h (by decide), fun _ => ⟨mk_38, fun h => absurd h (by decide)⟩, by decide⟩
set_option maxRecDepth 20000 in
theorem mq_1_34 : pm_mq 1 (225, 56, 0) := ⟨fun _ => pm_in5 54 (by rfl) rfl, fun h => absurd h (by decide), fun _ => ⟨mk_56, fun h => absurd h (by decide)⟩, by decide⟩
set_option maxRecDepth 20000 in
theorem mq_1_35 : pm_mq 1 (228, 58, 0) := ⟨fun _ => pm_in5 66 (by rfl) rfl, fun h => absurd h (by decide), fun _ => ⟨mk_58, fun h => absurd h (by decide)⟩, by decide⟩
set_option maxRecDepth 20000 in
theorem mq_1_36 : pm_mq 1 (231, 59, 0) := ⟨fun _ => pm_in5 70 (by rfl) rfl, fun h => absurd h (by decide), fun _ => ⟨mk_59, fun h => absurd h (by decide)⟩, by decide⟩
set_option maxRecDepth 20000 in
theorem mq_1_37 : pm_mq 1 (234, 61, 0) := ⟨fun _ => pm_in5 79 (by rfl) rfl, fun h => absurd h (by decide), fun _ => ⟨mk_61, fun h => absurd h (by decide)⟩, by decide⟩
set_option maxRecDepth 20000 in
theorem mq_1_38 : pm_mq 1 (237, 60, 0) := ⟨fun _ => pm_in5 83 (by rfl) rfl, fun h => absurd h (by decide), fun _ => ⟨mk_60, fun h => absurd h (by decide)⟩, by decide⟩
set_option maxRecDepth 20000 in
theorem mq_1_39 : pm_mq 1 (240, 41, 0) := ⟨fun _ => pm_in5 91 (by rfl) rfl, fun h => absurd h (by decide), fun _ => ⟨mk_41, fun h => absurd h (by decide)⟩, by decide⟩
set_option maxRecDepth 20000 in
theorem mq_1_40 : pm_mq 1 (243, 42, 0) := ⟨fun _ => pm_in5 95 (by rfl) rfl, fun h => absurd h (by decide), fun _ => ⟨mk_42, fun h => absurd h (by decide)⟩, by decide⟩
set_option maxRecDepth 20000 in
theorem mq_1_41 : pm_mq 1 (246, 57, 0) := ⟨fun _ => pm_in5 103 (by rfl) rfl, fun h => absurd h (by decide), fun _ => ⟨mk_57, fun h => absurd h (by decide)⟩, by decide⟩
set_option maxRecDepth 20000 in
theorem mqs_1 : ∀ q ∈ pm_mls.getD 1 [], pm_mq 1 q := List.forall_mem_cons.mpr ⟨mq_1_0, List.forall_mem_cons.mpr ⟨mq_1_1, List.forall_mem_cons.mpr ⟨mq_1_2, List.forall_mem_cons.mpr ⟨mq_1_3, List.forall_mem_cons.mpr ⟨mq_1_4, List.forall_mem_cons.mpr ⟨mq_1_5, List.forall_mem_cons.mpr ⟨mq_1_6, List.forall_mem_cons.mpr ⟨mq_1_7, List.forall_mem_cons.mpr ⟨mq_1_8, List.forall_mem_cons.mpr ⟨mq_1_9, List.forall_mem_cons.mpr ⟨mq_1_10, List.forall_mem_cons.mpr ⟨mq_1_11, List.forall_mem_cons.mpr ⟨mq_1_12, List.forall_mem_cons.mpr ⟨mq_1_13, List.forall_mem_cons.mpr ⟨mq_1_14, List.forall_mem_cons.mpr ⟨mq_1_15, List.forall_mem_cons.mpr ⟨mq_1_16, List.forall_mem_cons.mpr ⟨mq_1_17, List.forall_mem_cons.mpr ⟨mq_1_18, List.forall_mem_cons.mpr ⟨mq_1_19, List.forall_mem_cons.mpr ⟨mq_1_20, List.forall_mem_cons.mpr ⟨mq_1_21, List.forall_mem_cons.mpr ⟨mq_1_22, List.forall_mem_cons.mpr ⟨mq_1_23, List.forall_mem_cons.mpr ⟨mq_1_24, List.forall_mem_cons.mpr ⟨mq_1_25, List.forall_mem_cons.mpr ⟨mq_1_26, List.forall_mem_cons.mpr ⟨mq_1_27, List.forall_mem_cons.mpr ⟨mq_1_28, List.forall_mem_cons.mpr ⟨mq_1_29, List.forall_mem_cons.mpr ⟨mq_1_30, List.forall_mem_cons.mpr ⟨mq_1_31, List.forall_mem_cons.mpr ⟨mq_1_32, List.forall_mem_cons.mpr ⟨mq_1_33, List.forall_mem_cons.mpr ⟨mq_1_34, List.forall_mem_cons.mpr ⟨mq_1_35, List.forall_mem_cons.mpr ⟨mq_1_36, List.forall_mem_cons.mpr ⟨mq_1_37, List.forall_mem_cons.mpr ⟨mq_1_38, List.forall_mem_cons.mpr ⟨mq_1_39, List.forall_mem_cons.mpr ⟨mq_1_40, List.forall_mem_cons.mpr ⟨mq_1_41, fun _ h => absurd h List.not_mem_nil⟩⟩⟩⟩⟩⟩⟩⟩⟩⟩⟩⟩⟩⟩⟩⟩⟩⟩⟩⟩⟩⟩⟩⟩⟩⟩⟩⟩⟩⟩⟩⟩⟩⟩⟩⟩⟩⟩⟩⟩⟩⟩
set_option maxRecDepth 20000 in
theorem mq_2_0 : pm_mq 2 (3, 1006, 0) := ⟨fun _ => pm_in1 213 (by rfl) rfl, fun h => absurd h (by decide), fun h => absurd h (by decide), by decide⟩
set_option maxRecDepth 20000 in
theorem mq_2_1 : pm_mq 2 (17, 81, 1) := ⟨fun h => absurd h (by decide), fun _ => pn_in1 215 (by rfl) rfl, fun _ => ⟨mk_81, fun _ => by decide⟩, by decide⟩
set_option maxRecDepth 20000 in
theorem mq_2_2 : pm_mq 2 (39, 83, 0) := ⟨fun _ => pm_in4 49 (by rfl) rfl, fun h => absurd h (by decide), fun _ => ⟨mk_83, fun h => absurd h (by decide)⟩, by decide⟩
set_option maxRecDepth 20000 in
theorem mq_2_3 : pm_mq 2 (46, 46, 0) := ⟨fun _ => pm_in4 50 (by rfl) rfl, fun h => absurd h (by decide), fun _ => ⟨mk_46, fun h => absurd h (by decide)⟩, by decide⟩
set_option maxRecDepth 20000 in
theorem mq_2_4 : pm_mq 2 (50, 47, 0) := ⟨fun _ => pm_in4 62 (by rfl) rfl, fun h => absurd h (by decide), fun _ => ⟨mk_47, fun h => absurd h (by decide)⟩, by decide⟩
set_option maxRecDepth 20000 in
theorem mq_2_5 : pm_mq 2 (54, 48, 0) := ⟨fun _ => pm_in4 71 (by rfl) rfl, fun h => absurd h (by decide), fun _ => ⟨mk_48, fun h => absurd h (by decide)⟩, by decide⟩
set_option maxRecDepth 20000 in
theorem mq_2_6 : pm_mq 2 (58, 1001, 0) := ⟨fun _ => pm_in4 85 (by rfl) rfl, fun h => absurd h (by decide), fun h => absurd h (by decide), by decide⟩
set_option maxRecDepth 20000 in
theorem mq_2_7 : pm_mq 2 (64, 152, 1) := ⟨fun h => absurd h (by decide), fun _ => pn_in4 54 (by rfl) rfl, fun _ => ⟨mk_152, fun _ => by decide⟩, by decide⟩
set_option maxRecDepth 20000 in
theorem mq_2_8 : pm_mq 2 (68, 84, 0) := ⟨fun _ => pm_in4 55 (by rfl) rfl, fun h => absurd h (by decide), fun _ => ⟨mk_84, fun h => absurd h (by decide)⟩, by decide⟩
set_option maxRecDepth 20000 in
theorem mq_2_9 : pm_mq 2 (72, 80, 0) := ⟨fun _ => pm_in4 59 (by rfl) rfl, fun h => absurd h (by decide), fun _ => ⟨mk_80, fun h => absurd h (by decide)⟩, by decide⟩
set_option maxRecDepth 20000 in
theorem mq_2_10 : pm_mq 2 (77, 85, 0) := ⟨fun _ => pm_in4 66 (by rfl) rfl, fun h => absurd h (by decide), fun _ => ⟨mk_85, fun h => absurd h (by decide)⟩, by decide⟩
set_option maxRecDepth 20000 in
theorem mq_2_11 : pm_mq 2 (80, 82, 0) := ⟨fun _ => pm_in4 70 (by rfl) rfl, fun h => absurd h (by decide), fun _ => ⟨mk_82, fun h => absurd h (by decide)⟩, by decide⟩
set_option maxRecDepth 20000 in
theorem mq_2_12 : pm_mq 2 (96, 73, 0) := ⟨fun _ => pm_in4 75 (by rfl) rfl, fun h => absurd h (by decide), fun _ => ⟨mk_73, fun h => absurd h (by decide)⟩, by decide⟩
set_option maxRecDepth 20000 in
theorem mq_2_13 : pm_mq 2 (102, 72, 0) := ⟨fun _ => pm_in4 79 (by rfl) rfl, fun h => absurd h (by decide), fun _ => ⟨mk_72, fun h => absurd h (by decide)⟩, by decide⟩
set_option maxRecDepth 20000 in
theorem mq_2_14 : pm_mq 2 (108, 1, 0) := ⟨fun _ => pm_in4 80 (by rfl) rfl, fun h => absurd h (by decide), fun _ => ⟨mk_1, fun h => absurd h (by decide)⟩, by decide⟩
set_option maxRecDepth 20000 in
theorem mqs_2 : ∀ q ∈ pm_mls.getD 2 [], pm_mq 2 q := List.forall_mem_cons.mpr ⟨mq_2_0, List.forall_mem_cons.mpr ⟨mq_2_1, List.forall_mem_cons.mpr ⟨mq_2_2, List.forall_mem_cons.mpr ⟨mq_2_3, List.forall_mem_cons.mpr ⟨mq_2_4, List.forall_mem_cons.mpr ⟨mq_2_5, List.forall_mem_cons.mpr ⟨mq_2_6, List.forall_mem_cons.mpr ⟨mq_2_7, List.forall_mem_cons.mpr ⟨mq_2_8, List.forall_mem_cons.mpr ⟨mq_2_9, List.forall_mem_cons.mpr ⟨mq_2_10, List.forall_mem_cons.mpr ⟨mq_2_11, List.forall_mem_cons.mpr ⟨mq_2_12, List.forall_mem_cons.mpr ⟨mq_2_13, List.forall_mem_cons.mpr ⟨mq_2_14, fun _ h => absurd h List.not_mem_nil⟩⟩⟩⟩⟩⟩⟩⟩⟩⟩⟩⟩⟩⟩⟩
set_option maxRecDepth 20000 in
theorem mq_3_0 : pm_mq 3 (3, 1006, 0) := ⟨fun _ => pm_in2 13 (by rfl) rfl, fun h => absurd h (by decide), fun h => absurd h (by decide), by decide⟩
set_option maxRecDepth 20000 in
theorem mq_3_1 : pm_mq 3 (37, 69, 0) := ⟨fun _ => pm_in5 24 (by rfl) rfl, fun h => absurd h (by decide), fun _ => ⟨mk_69, fun h => absurd h (by decide)⟩, by decide⟩
set_option maxRecDepth 20000 in
theorem mq_3_2 : pm_mq 3 (43, 1001, 0) := ⟨fun _ => pm_in5 25 (by rfl) rfl, fun h => absurd h (by decide), fun h => absurd h (by decide), by decide⟩
set_option maxRecDepth 20000 in
theorem mq_3_3 : pm_mq 3 (49, 52, 0) := ⟨fun _ => pm_in5 26 (by rfl) rfl, fun h => absurd h (by decide), fun _ => ⟨mk_52, fun h => absurd h (by decide)⟩, by decide⟩
set_option maxRecDepth 20000 in
theorem mq_3_4 : pm_mq 3 (52, 54, 0) := ⟨fun _ => pm_in5 37 (by rfl) rfl, fun h => absurd h (by decide), fun _ => ⟨mk_54, fun h => absurd h (by decide)⟩, by decide⟩
set_option maxRecDepth 20000 in
theorem mq_3_5 : pm_mq 3 (55, 55, 0) := ⟨fun _ => pm_in5 41 (by rfl) rfl, fun h => absurd h (by decide), fun _ => ⟨mk_55, fun h => absurd h (by decide)⟩, by decide⟩
set_option maxRecDepth 20000 in
theorem mq_3_6 : pm_mq 3 (64, 53, 0) := ⟨fun _ => pm_in5 33 (by rfl) rfl, fun h => absurd h (by decide), fun _ => ⟨mk_53, fun h => absurd h (by decide)⟩, by decide⟩
set_option maxRecDepth 20000 in
theorem mq_3_7 : pm_mq 3 (67, 58, 0) := ⟨fun _ => pm_in5 74 (by rfl) rfl, fun h => absurd h (by decide), fun _ => ⟨mk_58, fun h => absurd h (by decide)⟩, by decide⟩
set_option maxRecDepth 20000 in
theorem mqs_3 : ∀ q ∈ pm_mls.getD 3 [], pm_mq 3 q := List.forall_mem_cons.mpr ⟨mq_3_0, List.forall_mem_cons.mpr ⟨mq_3_1, List.forall_mem_cons.mpr ⟨mq_3_2, List.forall_mem_cons.mpr ⟨mq_3_3, List.forall_mem_cons.mpr ⟨mq_3_4, List.forall_mem_cons.mpr ⟨mq_3_5, List.forall_mem_cons.mpr ⟨mq_3_6, List.forall_mem_cons.mpr ⟨mq_3_7, fun _ h => absurd h List.not_mem_nil⟩⟩⟩⟩⟩⟩⟩⟩
set_option maxRecDepth 20000 in
theorem mq_4_0 : pm_mq 4 (3, 1006, 0) := ⟨fun _ => pm_in2 100 (by rfl) rfl, fun h => absurd h (by decide), fun h => absurd h (by decide), by decide⟩
set_option maxRecDepth 20000 in
theorem mq_4_1 : pm_mq 4 (37, 81, 1) := ⟨fun h => absurd h (by decide), fun _ => pn_in2 102 (by rfl) rfl, fun _ => ⟨mk_81, fun _ => by decide⟩, by decide⟩
set_option maxRecDepth 20000 in
theorem mq_4_2 : pm_mq 4 (38, 83, 0) := ⟨fun _ => pm_in4 131 (by rfl) rfl, fun h => absurd h (by decide), fun _ => ⟨mk_83, fun h => absurd h (by decide)⟩, by decide⟩
set_option maxRecDepth 20000 in
theorem mq_4_3 : pm_mq 4 (42, 66, 0) := ⟨fun _ => pm_in4 132 (by rfl) rfl, fun h => absurd h (by decide), fun _ => ⟨mk_66, fun h => absurd h (by decide)⟩, by decide⟩
set_option maxRecDepth 20000 in
theorem mq_4_4 : pm_mq 4 (56, 1002, 0) := ⟨fun _ => pm_in4 136 (by rfl) rfl, fun h => absurd h (by decide), fun h => absurd h (by decide), by decide⟩
set_option maxRecDepth 20000 in
theorem mq_4_5 : pm_mq 4 (62, 1001, 0) := ⟨fun _ => pm_in5 170 (by rfl) rfl, fun h => absurd h (by decide), fun h => absurd h (by decide), by decide⟩
set_option maxRecDepth 20000 in
theorem mqs_4 : ∀ q ∈ pm_mls.getD 4 [], pm_mq 4 q := List.forall_mem_cons.mpr ⟨mq_4_0, List.forall_mem_cons.mpr ⟨mq_4_1, List.forall_mem_cons.mpr ⟨mq_4_2, List.forall_mem_cons.mpr ⟨mq_4_3, List.forall_mem_cons.mpr ⟨mq_4_4, List.forall_mem_cons.mpr ⟨mq_4_5, fun _ h => absurd h List.not_mem_nil⟩⟩⟩⟩⟩⟩
set_option maxRecDepth 20000 in
theorem mq_5_0 : pm_mq 5 (1, 1006, 0) := ⟨fun _ => pm_in1 37 (by rfl) rfl, fun h => absurd h (by decide), fun h => absurd h (by decide), by decide⟩
set_option maxRecDepth 20000 in
theorem mq_5_1 : pm_mq 5 (22, 69, 0) := ⟨fun _ => pm_in3 47 (by rfl) rfl, fun h => absurd h (by decide), fun _ => ⟨mk_69, fun h => absurd h (by decide)⟩, by decide⟩
set_option maxRecDepth 20000 in
theorem mqs_5 : ∀ q ∈ pm_mls.getD 5 [], pm_mq 5 q := List.forall_mem_cons.mpr ⟨mq_5_0, List.forall_mem_cons.mpr ⟨mq_5_1, fun _ h => absurd h List.not_mem_nil⟩⟩
set_option maxRecDepth 20000 in
theorem mq_6_0 : pm_mq 6 (5, 1006, 0) := ⟨fun _ => pm_in1 55 (by rfl) rfl, fun h => absurd h (by decide), fun h => absurd h (by decide), by decide⟩
set_option maxRecDepth 20000 in
theorem mq_6_1 : pm_mq 6 (28, 149, 1) := ⟨fun h => absurd h (by decide), fun _ => pn_in3 67 (by rfl) rfl, fun _ => ⟨mk_149, fun _ => by decide⟩, by decide⟩
set_option maxRecDepth 20000 in
theorem mq_6_2 : pm_mq 6 (32, 76, 0) := ⟨fun _ => pm_in3 73 (by rfl) rfl, fun h => absurd h (by decide), fun _ => ⟨mk_76, fun h => absurd h (by decide)⟩, by decide⟩
set_option maxRecDepth 20000 in
theorem mq_6_3 : pm_mq 6 (36, 154, 1) := ⟨fun h => absurd h (by decide), fun _ => pn_in4 29 (by rfl) rfl, fun _ => ⟨mk_154, fun _ => by decide⟩, by decide⟩
set_option maxRecDepth 20000 in
theorem mq_6_4 : pm_mq 6 (40, 78, 0) := ⟨fun _ => pm_in4 30 (by rfl) rfl, fun h => absurd h (by decide), fun _ => ⟨mk_78, fun h => absurd h (by decide)⟩, by decide⟩
set_option maxRecDepth 20000 in
theorem mqs_6 : ∀ q ∈ pm_mls.getD 6 [], pm_mq 6 q := List.forall_mem_cons.mpr ⟨mq_6_0, List.forall_mem_cons.mpr ⟨mq_6_1, List.forall_mem_cons.mpr ⟨mq_6_2, List.forall_mem_cons.mpr ⟨mq_6_3, List.forall_mem_cons.mpr ⟨mq_6_4, fun _ h => absurd h List.not_mem_nil⟩⟩⟩⟩⟩
set_option maxRecDepth 20000 in
theorem mq_7_0 : pm_mq 7 (3, 1006, 0) := ⟨fun _ => pm_in1 94 (by rfl) rfl, fun h => absurd h (by decide), fun h => absurd h (by decide), by decide⟩
set_option maxRecDepth 20000 in
theorem mq_7_1 : pm_mq 7 (22, 154, 1) := ⟨fun h => absurd h (by decide), fun _ => pn_in3 224 (by rfl) rfl, fun _ => ⟨mk_154, fun _ => by decide⟩, by decide⟩
set_option maxRecDepth 20000 in
theorem mq_7_2 : pm_mq 7 (26, 90, 0) := ⟨fun _ => pm_in3 102 (by rfl) rfl, fun h => absurd h (by decide), fun _ => ⟨mk_90, fun h => absurd h (by decide)⟩, by decide⟩
set_option maxRecDepth 20000 in
theorem mq_7_3 : pm_mq 7 (29, 72, 0) := ⟨fun _ => pm_in3 106 (by rfl) rfl, fun h => absurd h (by decide), fun _ => ⟨mk_72, fun h => absurd h (by decide)⟩, by decide⟩
set_option maxRecDepth 20000 in
theorem mq_7_4 : pm_mq 7 (35, 82, 0) := ⟨fun _ => pm_in3 107 (by rfl) rfl, fun h => absurd h (by decide), fun _ => ⟨mk_82, fun h => absurd h (by decide)⟩, by decide⟩
set_option maxRecDepth 20000 in
theorem mqs_7 : ∀ q ∈ pm_mls.getD 7 [], pm_mq 7 q := List.forall_mem_cons.mpr ⟨mq_7_0, List.forall_mem_cons.mpr ⟨mq_7_1, List.forall_mem_cons.mpr ⟨mq_7_2, List.forall_mem_cons.mpr ⟨mq_7_3, List.forall_mem_cons.mpr ⟨mq_7_4, fun _ h => absurd h List.not_mem_nil⟩⟩⟩⟩⟩
set_option maxRecDepth 20000 in
theorem mq_8_0 : pm_mq 8 (3, 1006, 0) := ⟨fun _ => pm_in1 154 (by rfl) rfl, fun h => absurd h (by decide), fun h => absurd h (by decide), by decide⟩
set_option maxRecDepth 20000 in
theorem mq_8_1 : pm_mq 8 (11, 68, 1) := ⟨fun h => absurd h (by decide), fun _ => pn_in1 156 (by rfl) rfl, fun _ => ⟨mk_68, fun _ => by decide⟩, by decide⟩
set_option maxRecDepth 20000 in
theorem mq_8_2 : pm_mq 8 (20, 74, 1) := ⟨fun h => absurd h (by decide), fun _ => pn_in1 158 (by rfl) rfl, fun _ => ⟨mk_74, fun _ => by decide⟩, by decide⟩
set_option maxRecDepth 20000 in
theorem mq_8_3 : pm_mq 8 (64, 81, 1) := ⟨fun h => absurd h (by decide), fun _ => pn_in1 161 (by rfl) rfl, fun _ => ⟨mk_81, fun _ => by decide⟩, by decide⟩
set_option maxRecDepth 20000 in
theorem mq_8_4 : pm_mq 8 (65, 1002, 0) := ⟨fun _ => pm_in2 199 (by rfl) rfl, fun h => absurd h (by decide), fun h => absurd h (by decide), by decide⟩
set_option maxRecDepth 20000 in
theorem mq_8_5 : pm_mq 8 (71, 103, 0) := ⟨fun _ => pm_in2 202 (by rfl) rfl, fun h => absurd h (by decide), fun _ => ⟨mk_103, fun h => absurd h (by decide)⟩, by decide⟩
set_option maxRecDepth 20000 in
theorem mq_8_6 : pm_mq 8 (74, 95, 0) := ⟨fun _ => pm_in2 212 (by rfl) rfl, fun h => absurd h (by decide), fun _ => ⟨mk_95, fun h => absurd h (by decide)⟩, by decide⟩
set_option maxRecDepth 20000 in
theorem mq_8_7 : pm_mq 8 (78, 94, 0) := ⟨fun _ => pm_in3 29 (by rfl) rfl, fun h => absurd h (by decide), fun _ => ⟨mk_94, fun h => absurd h (by decide)⟩, by decide⟩
set_option maxRecDepth 20000 in
theorem mq_8_8 : pm_mq 8 (82, 100, 0) := ⟨fun _ => pm_in3 82 (by rfl) rfl, fun h => absurd h (by decide), fun _ => ⟨mk_100, fun h => absurd h (by decide)⟩, by decide⟩
set_option maxRecDepth 20000 in
theorem mq_8_9 : pm_mq 8 (88, 101, 0) := ⟨fun _ => pm_in2 217 (by rfl) rfl, fun h => absurd h (by decide), fun _ => ⟨mk_101, fun h => absurd h (by decide)⟩, by decide⟩
set_option maxRecDepth 20000 in
theorem mq_8_10 : pm_mq 8 (92, 96, 0) := ⟨fun _ => pm_in3 33 (by rfl) rfl, fun h => absurd h (by decide), fun _ => ⟨mk_96, fun h => absurd h (by decide)⟩, by decide⟩
set_option maxRecDepth 20000 in
theorem mq_8_11 : pm_mq 8 (97, 98, 0) := ⟨fun _ => pm_in3 78 (by rfl) rfl, fun h => absurd h (by decide), fun _ => ⟨mk_98, fun h => absurd h (by decide)⟩, by decide⟩
set_option maxRecDepth 20000 in
theorem mq_8_12 : pm_mq 8 (103, 69, 0) := ⟨fun _ => pm_in3 38 (by rfl) rfl, fun h => absurd h (by decide), fun _ => ⟨mk_69, fun h => absurd h (by decide)⟩, by decide⟩
set_option maxRecDepth 20000 in
theorem mq_8_13 : pm_mq 8 (106, 70, 0) := ⟨fun _ => pm_in3 43 (by rfl) rfl, fun h => absurd h (by decide), fun _ => ⟨mk_70, fun h => absurd h (by decide)⟩, by decide⟩
set_option maxRecDepth 20000 in
theorem mq_8_14 : pm_mq 8 (118, 97, 0) := ⟨fun _ => pm_in3 52 (by rfl) rfl, fun h => absurd h (by decide), fun _ => ⟨mk_97, fun h => absurd h (by decide)⟩, by decide⟩
set_option maxRecDepth 20000 in
theorem mq_8_15 : pm_mq 8 (121, 102, 0) := ⟨fun _ => pm_in3 56 (by rfl) rfl, fun h => absurd h (by decide), fun _ => ⟨mk_102, fun h => absurd h (by decide)⟩, by decide⟩
set_option maxRecDepth 20000 in
theorem mq_8_16 : pm_mq 8 (125, 152, 1) := ⟨fun h => absurd h (by decide), fun _ => pn_in3 60 (by rfl) rfl, fun _ => ⟨mk_152, fun _ => by decide⟩, by decide⟩
set_option maxRecDepth 20000 in
theorem mq_8_17 : pm_mq 8 (129, 75, 0) := ⟨fun _ => pm_in3 63 (by rfl) rfl, fun h => absurd h (by decide), fun _ => ⟨mk_75, fun h => absurd h (by decide)⟩, by decide⟩
set_option maxRecDepth 20000 in
theorem mq_8_18 : pm_mq 8 (135, 99, 0) := ⟨fun _ => pm_in3 86 (by rfl) rfl, fun h => absurd h (by decide), fun _ => ⟨mk_99, fun h => absurd h (by decide)⟩, by decide⟩
set_option maxRecDepth 20000 in
theorem mq_8_19 : pm_mq 8 (139, 91, 0) := ⟨fun _ => pm_in3 98 (by rfl) rfl, fun h => absurd h (by decide), fun _ => ⟨mk_91, fun h => absurd h (by decide)⟩, by decide⟩
set_option maxRecDepth 20000 in
theorem mq_8_20 : pm_mq 8 (146, 72, 0) := ⟨fun _ => pm_in3 90 (by rfl) rfl, fun h => absurd h (by decide), fun _ => ⟨mk_72, fun h => absurd h (by decide)⟩, by decide⟩
set_option maxRecDepth 20000 in
theorem mq_8_21 : pm_mq 8 (150, 82, 0) := ⟨fun _ => pm_in3 94 (by rfl) rfl, fun h => absurd h (by decide), fun _ => ⟨mk_82, fun h => absurd h (by decide)⟩, by decide⟩
set_option maxRecDepth 20000 in
theorem mq_8_22 : pm_mq 8 (153, 1004, 0) := ⟨fun _ => pm_in2 221 (by rfl) rfl, fun h => absurd h (by decide), fun h => absurd h (by decide), by decide⟩
set_option maxRecDepth 20000 in
theorem mq_8_23 : pm_mq 8 (157, 1005, 0) := ⟨fun _ => pm_in2 231 (by rfl) rfl, fun h => absurd h (by decide), fun h => absurd h (by decide), by decide⟩
set_option maxRecDepth 20000 in
theorem mq_8_24 : pm_mq 8 (161, 104, 0) := ⟨fun _ => pm_in2 206 (by rfl) rfl, fun h => absurd h (by decide), fun _ => ⟨mk_104, fun h => absurd h (by decide)⟩, by decide⟩
set_option maxRecDepth 20000 in
theorem mq_8_25 : pm_mq 8 (164, 105, 0) := ⟨fun _ => pm_in2 209 (by rfl) rfl, fun h => absurd h (by decide), fun _ => ⟨mk_105, fun h => absurd h (by decide)⟩, by decide⟩
set_option maxRecDepth 20000 in
theorem mqs_8 : ∀ q ∈ pm_mls.getD 8 [], pm_mq 8 q := List.forall_mem_cons.mpr ⟨mq_8_0, List.forall_mem_cons.mpr ⟨mq_8_1, List.forall_mem_cons.mpr ⟨mq_8_2, List.forall_mem_cons.mpr ⟨mq_8_3, List.forall_mem_cons.mpr ⟨mq_8_4, List.forall_mem_cons.mpr ⟨mq_8_5, List.forall_mem_cons.mpr ⟨mq_8_6, List.forall_mem_cons.mpr ⟨mq_8_7, List.forall_mem_cons.mpr ⟨mq_8_8, List.forall_mem_cons.mpr ⟨mq_8_9, List.forall_mem_cons.mpr ⟨mq_8_10, List.forall_mem_cons.mpr ⟨mq_8_11, List.forall_mem_cons.mpr ⟨mq_8_12, List.forall_mem_cons.mpr ⟨mq_8_13, List.forall_mem_cons.mpr ⟨mq_8_14, List.forall_mem_cons.mpr ⟨mq_8_15, List.forall_mem_cons.mpr ⟨mq_8_16, List.forall_mem_cons.mpr ⟨mq_8_17, List.forall_mem_cons.mpr ⟨mq_8_18, List.forall_mem_cons.mpr ⟨mq_8_19, List.forall_mem_cons.mpr ⟨mq_8_20, List.forall_mem_cons.mpr ⟨mq_8_21, List.forall_mem_cons.mpr ⟨mq_8_22, List.forall_mem_cons.mpr ⟨mq_8_23, List.forall_mem_cons.mpr ⟨mq_8_24, List.forall_mem_cons.mpr ⟨mq_8_25, fun _ h => absurd h List.not_mem_nil⟩⟩⟩⟩⟩⟩⟩⟩⟩⟩⟩⟩⟩⟩⟩⟩⟩⟩⟩⟩⟩⟩⟩⟩⟩⟩
set_option maxRecDepth 20000 in
theorem mq_9_0 : pm_mq 9 (1, 1006, 0) := ⟨fun _ => pm_in1 29 (by rfl) rfl, fun h => absurd h (by decide), fun h => absurd h (by decide), by decide⟩
set_option maxRecDepth 20000 in
theorem mq_9_1 : pm_mq 9 (32, 68, 1) := ⟨fun h => absurd h (by decide), fun _ => pn_in1 34 (by rfl) rfl, fun _ => ⟨mk_68, fun _ => by decide⟩, by decide⟩
set_option maxRecDepth 20000 in
theorem mq_9_2 : pm_mq 9 (39, 74, 1) := ⟨fun h => absurd h (by decide), fun _ => pn_in1 52 (by rfl) rfl, fun _ => ⟨mk_74, fun _ => by decide⟩, by decide⟩
set_option maxRecDepth 20000 in
theorem mq_9_3 : pm_mq 9 (46, 0, 0) := ⟨fun _ => pm_in1 83 (by rfl) rfl, fun h => absurd h (by decide), fun _ => ⟨mk_0, fun h => absurd h (by decide)⟩, by decide⟩
set_option maxRecDepth 20000 in
theorem mq_9_4 : pm_mq 9 (55, 92, 0) := ⟨fun _ => pm_in1 151 (by rfl) rfl, fun h => absurd h (by decide), fun _ => ⟨mk_92, fun h => absurd h (by decide)⟩, by decide⟩
set_option maxRecDepth 20000 in
theorem mq_9_5 : pm_mq 9 (62, 44, 0) := ⟨fun _ => pm_in1 210 (by rfl) rfl, fun h => absurd h (by decide), fun _ => ⟨mk_44, fun h => absurd h (by decide)⟩, by decide⟩
set_option maxRecDepth 20000 in
theorem mq_9_6 : pm_mq 9 (71, 19, 0) := ⟨fun _ => pm_in2 4 (by rfl) rfl, fun h => absurd h (by decide), fun _ => ⟨mk_19, fun h => absurd h (by decide)⟩, by decide⟩
set_option maxRecDepth 20000 in
theorem mq_9_7 : pm_mq 9 (78, 62, 0) := ⟨fun _ => pm_in2 97 (by rfl) rfl, fun h => absurd h (by decide), fun _ => ⟨mk_62, fun h => absurd h (by decide)⟩, by decide⟩
set_option maxRecDepth 20000 in
theorem mq_9_8 : pm_mq 9 (89, 81, 1) := ⟨fun h => absurd h (by decide), fun _ => pn_in2 132 (by rfl) rfl, fun _ => ⟨mk_81, fun _ => by decide⟩, by decide⟩
set_option maxRecDepth 20000 in
theorem mq_9_9 : pm_mq 9 (94, 156, 0) := ⟨fun _ => pm_in2 183 (by rfl) rfl, fun h => absurd h (by decide), fun _ => ⟨mk_156, fun h => absurd h (by decide)⟩, by decide⟩
set_option maxRecDepth 20000 in
theorem mq_9_10 : pm_mq 9 (98, 145, 0) := ⟨fun _ => pm_in2 191 (by rfl) rfl, fun h => absurd h (by decide), fun _ => ⟨mk_145, fun h => absurd h (by decide)⟩, by decide⟩
set_option maxRecDepth 20000 in
theorem mq_9_11 : pm_mq 9 (102, 93, 0) := ⟨fun _ => pm_in2 195 (by rfl) rfl, fun h => absurd h (by decide), fun _ => ⟨mk_93, fun h => absurd h (by decide)⟩, by decide⟩
set_option maxRecDepth 20000 in
theorem mq_9_12 : pm_mq 9 (112, 157, 0) := ⟨fun _ => pm_in3 108 (by rfl) rfl, fun h => absurd h (by decide), fun _ => ⟨mk_157, fun h => absurd h (by decide)⟩, by decide⟩
set_option maxRecDepth 20000 in
theorem mq_9_13 : pm_mq 9 (118, 146, 0) := ⟨fun _ => pm_in3 122 (by rfl) rfl, fun h => absurd h (by decide), fun _ => ⟨mk_146, fun h => absurd h (by decide)⟩, by decide⟩
set_option maxRecDepth 20000 in
theorem mq_9_14 : pm_mq 9 (136, 158, 0) := ⟨fun _ => pm_in3 139 (by rfl) rfl, fun h => absurd h (by decide), fun _ => ⟨mk_158, fun h => absurd h (by decide)⟩, by decide⟩
set_option maxRecDepth 20000 in
theorem mq_9_15 : pm_mq 9 (140, 147, 0) := ⟨fun _ => pm_in3 147 (by rfl) rfl, fun h => absurd h (by decide), fun _ => ⟨mk_147, fun h => absurd h (by decide)⟩, by decide⟩
set_option maxRecDepth 20000 in
theorem mq_9_16 : pm_mq 9 (153, 155, 0) := ⟨fun _ => pm_in3 155 (by rfl) rfl, fun h => absurd h (by decide), fun _ => ⟨mk_155, fun h => absurd h (by decide)⟩, by decide⟩
set_option maxRecDepth 20000 in
theorem mq_9_17 : pm_mq 9 (156, 154, 0) := ⟨fun _ => pm_in3 158 (by rfl) rfl, fun h => absurd h (by decide), fun _ => ⟨mk_154, fun h => absurd h (by decide)⟩, by decide⟩
set_option maxRecDepth 20000 in
theorem mq_9_18 : pm_mq 9 (160, 1001, 0) := ⟨fun _ => pm_in3 165 (by rfl) rfl, fun h => absurd h (by decide), fun h => absurd h (by decide), by decide⟩
set_option maxRecDepth 20000 in
theorem mq_9_19 : pm_mq 9 (165, 148, 0) := ⟨fun _ => pm_in3 70 (by rfl) rfl, fun h => absurd h (by decide), fun _ => ⟨mk_148, fun h => absurd h (by decide)⟩, by decide⟩
set_option maxRecDepth 20000 in
theorem mq_9_20 : pm_mq 9 (168, 151, 0) := ⟨fun _ => pm_in3 176 (by rfl) rfl, fun h => absurd h (by decide), fun _ => ⟨mk_151, fun h => absurd h (by decide)⟩, by decide⟩
set_option maxRecDepth 20000 in
theorem mq_9_21 : pm_mq 9 (172, 78, 0) := ⟨fun _ => pm_in3 182 (by rfl) rfl, fun h => absurd h (by decide), fun _ => ⟨mk_78, fun h => absurd h (by decide)⟩, by decide⟩
set_option maxRecDepth 20000 in
theorem mq_9_22 : pm_mq 9 (176, 86, 0) := ⟨fun _ => pm_in3 186 (by rfl) rfl, fun h => absurd h (by decide), fun _ => ⟨mk_86, fun h => absurd h (by decide)⟩, by decide⟩
set_option maxRecDepth 20000 in
theorem mq_9_23 : pm_mq 9 (179, 71, 0) := ⟨fun _ => pm_in3 194 (by rfl) rfl, fun h => absurd h (by decide), fun _ => ⟨mk_71, fun h => absurd h (by decide)⟩, by decide⟩
set_option maxRecDepth 20000 in
theorem mq_9_24 : pm_mq 9 (182, 13, 0) := ⟨fun _ => pm_in3 198 (by rfl) rfl, fun h => absurd h (by decide), fun _ => ⟨mk_13, fun h => absurd h (by decide)⟩, by decide⟩
set_option maxRecDepth 20000 in
theorem mq_9_25 : pm_mq 9 (186, 14, 0) := ⟨fun _ => pm_in3 212 (by rfl) rfl, fun h => absurd h (by decide), fun _ => ⟨mk_14, fun h => absurd h (by decide)⟩, by decide⟩
set_option maxRecDepth 20000 in
theorem mq_9_26 : pm_mq 9 (190, 87, 0) := ⟨fun _ => pm_in4 4 (by rfl) rfl, fun h => absurd h (by decide), fun _ => ⟨mk_87, fun h => absurd h (by decide)⟩, by decide⟩
set_option maxRecDepth 20000 in
theorem mq_9_27 : pm_mq 9 (194, 281, 0) := ⟨fun _ => pm_in4 12 (by rfl) rfl, fun h => absurd h (by decide), fun _ => ⟨mk_281, fun h => absurd h (by decide)⟩, by decide⟩
set_option maxRecDepth 20000 in
theorem mq_9_28 : pm_mq 9 (199, 149, 0) := ⟨fun _ => pm_in4 19 (by rfl) rfl, fun h => absurd h (by decide), fun _ => ⟨mk_149, fun h => absurd h (by decide)⟩, by decide⟩
set_option maxRecDepth 20000 in
theorem mq_9_29 : pm_mq 9 (202, 11, 0) := ⟨fun _ => pm_in4 20 (by rfl) rfl, fun h => absurd h (by decide), fun _ => ⟨mk_11, fun h => absurd h (by decide)⟩, by decide⟩
set_option maxRecDepth 20000 in
theorem mq_9_30 : pm_mq 9 (205, 161, 0) := ⟨fun _ => pm_in4 36 (by rfl) rfl, fun h => absurd h (by decide), fun _ => ⟨mk_161, fun h => absurd h (by decide)⟩, by decide⟩
set_option maxRecDepth 20000 in
theorem mq_9_31 : pm_mq 9 (214, 49, 0) := ⟨fun _ => pm_in4 86 (by rfl) rfl, fun h => absurd h (by decide), fun _ => ⟨mk_49, fun h => absurd h (by decide)⟩, by decide⟩
set_option maxRecDepth 20000 in
theorem mq_9_32 : pm_mq 9 (220, 153, 0) := ⟨fun _ => pm_in4 40 (by rfl) rfl, fun h => absurd h (by decide), fun _ => ⟨mk_153, fun h => absurd h (by decide)⟩, by decide⟩
set_option maxRecDepth 20000 in
theorem mq_9_33 : pm_mq 9 (223, 152, 0) := ⟨fun _ => pm_in4 44 (by rfl) rfl, fun h => absurd h (by decide), fun _ => ⟨mk_152, fun h => absurd h (by decide)⟩, by decide⟩
set_option maxRecDepth 20000 in
theorem mq_9_34 : pm_mq 9 (227, 162, 0) := ⟨fun _ => pm_in4 98 (by rfl) rfl, fun h => absurd h (by decide), fun _ => ⟨mk_162, fun h => absurd h (by decide)⟩, by decide⟩
set_option maxRecDepth 20000 in
theorem mq_9_35 : pm_mq 9 (230, 1, 0) := ⟨fun _ => pm_in4 118 (by rfl) rfl, fun h => absurd h (by decide), fun _ => ⟨mk_1, fun h => absurd h (by decide)⟩, by decide⟩
set_option maxRecDepth 20000 in
theorem mq_9_36 : pm_mq 9 (234, 163, 0) := ⟨fun _ => pm_in4 119 (by rfl) rfl, fun h => absurd h (by decide), fun _ => ⟨mk_163, fun h => absurd h (by decide)⟩, by decide⟩
set_option maxRecDepth 20000 in
theorem mq_9_37 : pm_mq 9 (238, 3, 0) := ⟨fun _ => pm_in4 145 (by rfl) rfl, fun h => absurd h (by decide), fun _ => ⟨mk_3, fun h => absurd h (by decide)⟩, by decide⟩
set_option maxRecDepth 20000 in
theorem mq_9_38 : pm_mq 9 (242, 2, 0) := ⟨fun _ => pm_in4 155 (by rfl) rfl, fun h => absurd h (by decide), fun _ => ⟨mk_2, fun h => absurd h (by decide)⟩, by decide⟩
set_option maxRecDepth 20000 in
theorem mq_9_39 : pm_mq 9 (246, 83, 0) := ⟨fun _ => pm_in3 114 (by rfl) rfl, fun h => absurd h (by decide), fun _ => ⟨mk_83, fun h => absurd h (by decide)⟩, by decide⟩
set_option maxRecDepth 20000 in
theorem mq_9_40 : pm_mq 9 (250, 4, 0) := ⟨fun _ => pm_in4 163 (by rfl) rfl, fun h => absurd h (by decide), fun _ => ⟨mk_4, fun h => absurd h (by decide)⟩, by decide⟩
set_option maxRecDepth 20000 in
theorem mq_9_41 : pm_mq 9 (253, 164, 0) := ⟨fun _ => pm_in4 123 (by rfl) rfl, fun h => absurd h (by decide), fun _ => ⟨mk_164, fun h => absurd h (by decide)⟩, by decide⟩
set_option maxRecDepth 20000 in
theorem mq_9_42 : pm_mq 9 (257, 5, 0) := ⟨fun _ => pm_in4 171 (by rfl) rfl, fun h => absurd h (by decide), fun _ => ⟨mk_5, fun h => absurd h (by decide)⟩, by decide⟩
set_option maxRecDepth 20000 in
theorem mq_9_43 : pm_mq 9 (261, 6, 0) := ⟨fun _ => pm_in4 179 (by rfl) rfl, fun h => absurd h (by decide), fun _ => ⟨mk_6, fun h => absurd h (by decide)⟩, by decide⟩
set_option maxRecDepth 20000 in
theorem mq_9_44 : pm_mq 9 (265, 7, 0) := ⟨fun _ => pm_in4 188 (by rfl) rfl, fun h => absurd h (by decide), fun _ => ⟨mk_7, fun h => absurd h (by decide)⟩, by decide⟩
set_option maxRecDepth 20000 in
theorem mq_9_45 : pm_mq 9 (271, 8, 0) := ⟨fun _ => pm_in4 102 (by rfl) rfl, fun h => absurd h (by decide), fun _ => ⟨mk_8, fun h => absurd h (by decide)⟩, by decide⟩
set_option maxRecDepth 20000 in
theorem mq_9_46 : pm_mq 9 (274, 89, 0) := ⟨fun _ => pm_in4 208 (by rfl) rfl, fun h => absurd h (by decide), fun _ => ⟨mk_89, fun h => absurd h (by decide)⟩, by decide⟩
set_option maxRecDepth 20000 in
theorem mq_9_47 : pm_mq 9 (277, 20, 0) := ⟨fun _ => pm_in4 209 (by rfl) rfl, fun h => absurd h (by decide), fun _ => ⟨mk_20, fun h => absurd h (by decide)⟩, by decide⟩
set_option maxRecDepth 20000 in
theorem mq_9_48 : pm_mq 9 (280, 21, 0) := ⟨fun _ => pm_in5 122 (by rfl) rfl, fun h => absurd h (by decide), fun _ => ⟨mk_21, fun h => absurd h (by decide)⟩, by decide⟩
set_option maxRecDepth 20000 in
theorem mq_9_49 : pm_mq 9 (284, 22, 0) := ⟨fun _ => pm_in5 130 (by rfl) rfl, fun h => absurd h (by decide), fun _ => ⟨mk_22, fun h => absurd h (by decide)⟩, by decide⟩
set_option maxRecDepth 20000 in
theorem mq_9_50 : pm_mq 9 (287, 160, 0) := ⟨fun _ => pm_in5 138 (by rfl) rfl, fun h => absurd h (by decide), fun _ => ⟨mk_160, fun h => absurd h (by decide)⟩, by decide⟩
set_option maxRecDepth 20000 in
theorem mq_9_51 : pm_mq 9 (290, 77, 0) := ⟨fun _ => pm_in5 146 (by rfl) rfl, fun h => absurd h (by decide), fun _ => ⟨mk_77, fun h => absurd h (by decide)⟩, by decide⟩
set_option maxRecDepth 20000 in
theorem mq_9_52 : pm_mq 9 (293, 65, 0) := ⟨fun _ => pm_in5 150 (by rfl) rfl, fun h => absurd h (by decide), fun _ => ⟨mk_65, fun h => absurd h (by decide)⟩, by decide⟩
set_option maxRecDepth 20000 in
theorem mq_9_53 : pm_mq 9 (297, 165, 0) := ⟨fun _ => pm_in5 154 (by rfl) rfl, fun h => absurd h (by decide), fun _ => ⟨mk_165, fun h => absurd h (by decide)⟩, by decide⟩
set_option maxRecDepth 20000 in
theorem mq_9_54 : pm_mq 9 (302, 67, 0) := ⟨fun _ => pm_in5 166 (by rfl) rfl, fun h => absurd h (by decide), fun _ => ⟨mk_67, fun h => absurd h (by decide)⟩, by decide⟩
set_option maxRecDepth 20000 in
theorem mq_9_55 : pm_mq 9 (320, 88, 0) := ⟨fun _ => pm_in5 191 (by rfl) rfl, fun h => absurd h (by decide), fun _ => ⟨mk_88, fun h => absurd h (by decide)⟩, by decide⟩
set_option maxRecDepth 20000 in
theorem mq_9_56 : pm_mq 9 (331, 159, 0) := ⟨fun _ => pm_in5 175 (by rfl) rfl, fun h => absurd h (by decide), fun _ => ⟨mk_159, fun h => absurd h (by decide)⟩, by decide⟩
set_option maxRecDepth 20000 in
theorem mq_9_57 : pm_mq 9 (334, 150, 0) := ⟨fun _ => pm_in3 179 (by rfl) rfl, fun h => absurd h (by decide), fun _ => ⟨mk_150, fun h => absurd h (by decide)⟩, by decide⟩
set_option maxRecDepth 20000 in
theorem mq_9_58 : pm_mq 9 (338, 70, 0) := ⟨fun _ => pm_in3 112 (by rfl) rfl, fun h => absurd h (by decide), fun _ => ⟨mk_70, fun h => absurd h (by decide)⟩, by decide⟩
set_option maxRecDepth 20000 in
theorem mq_9_59 : pm_mq 9 (342, 75, 0) := ⟨fun _ => pm_in3 113 (by rfl) rfl, fun h => absurd h (by decide), fun _ => ⟨mk_75, fun h => absurd h (by decide)⟩, by decide⟩
set_option maxRecDepth 20000 in
theorem mq_9_60 : pm_mq 9 (345, 63, 0) := ⟨fun _ => pm_in3 118 (by rfl) rfl, fun h => absurd h (by decide), fun _ => ⟨mk_63, fun h => absurd h (by decide)⟩, by decide⟩
set_option maxRecDepth 20000 in
theorem mq_9_61 : pm_mq 9 (348, 45, 0) := ⟨fun _ => pm_in4 45 (by rfl) rfl, fun h => absurd h (by decide), fun _ => ⟨mk_45, fun h => absurd h (by decide)⟩, by decide⟩
set_option maxRecDepth 20000 in
theorem mq_9_62 : pm_mq 9 (352, 64, 0) := ⟨fun _ => pm_in4 127 (by rfl) rfl, fun h => absurd h (by decide), fun _ => ⟨mk_64, fun h => absurd h (by decide)⟩, by decide⟩
set_option maxRecDepth 20000 in
theorem mq_9_63 : pm_mq 9 (356, 10, 0) := ⟨fun _ => pm_in5 158 (by rfl) rfl, fun h => absurd h (by decide), fun _ => ⟨mk_10, fun h => absurd h (by decide)⟩, by decide⟩
set_option maxRecDepth 20000 in
theorem mqs_9 : ∀ q ∈ pm_mls.getD 9 [], pm_mq 9 q := List.forall_mem_cons.mpr ⟨mq_9_0, List.forall_mem_cons.mpr ⟨mq_9_1, List.forall_mem_cons.mpr ⟨mq_9_2, List.forall_mem_cons.mpr ⟨mq_9_3, List.forall_mem_cons.mpr ⟨mq_9_4, List.forall_mem_cons.mpr ⟨mq_9_5, List.forall_mem_cons.mpr ⟨mq_9_6, List.forall_mem_cons.mpr ⟨mq_9_7, List.forall_mem_cons.mpr ⟨mq_9_8, List.forall_mem_cons.mpr ⟨mq_9_9, List.forall_mem_cons.mpr ⟨mq_9_10, List.forall_mem_cons.mpr ⟨mq_9_11, List.forall_mem_cons.mpr ⟨mq_9_12, List.forall_mem_cons.mpr ⟨mq_9_13, List.forall_mem_cons.mpr ⟨mq_9_14, List.forall_mem_cons.mpr ⟨mq_9_15, List.forall_mem_cons.mpr ⟨mq_9_16, List.forall_mem_cons.mpr ⟨mq_9_17, List.forall_mem_cons.mpr ⟨mq_9_18, List.forall_mem_cons.mpr ⟨mq_9_19, List.forall_mem_cons.mpr ⟨mq_9_20, List.forall_mem_cons.mpr ⟨mq_9_21, List.forall_mem_cons.mpr ⟨mq_9_22, List.forall_mem_cons.mpr ⟨mq_9_23, List.forall_mem_cons.mpr ⟨mq_9_24, List.forall_mem_cons.mpr ⟨mq_9_25, List.forall_mem_cons.mpr ⟨mq_9_26, List.forall_mem_cons.mpr ⟨mq_9_27, List.forall_mem_cons.mpr ⟨mq_9_28, List.forall_mem_cons.mpr ⟨mq_9_29, List.forall_mem_cons.mpr ⟨mq_9_30, List.forall_mem_cons.mpr ⟨mq_9_31, List.forall_mem_cons.mpr ⟨mq_9_32, List.forall_mem_cons.mpr ⟨mq_9_33, List.forall_mem_cons.mpr ⟨mq_9_34, List.forall_mem_cons.mpr ⟨mq_9_35, List.forall_mem_cons.mpr ⟨mq_9_36, List.forall_mem_cons.mpr ⟨mq_9_37, List.forall_mem_cons.mpr ⟨mq_9_38, List.forall_mem_cons.mpr ⟨mq_9_39, List.forall_mem_cons.mpr ⟨mq_9_40, List.forall_mem_cons.mpr ⟨mq_9_41, List.forall_mem_cons.mpr ⟨mq_9_42, List.forall_mem_cons.mpr ⟨mq_9_43, List.forall_mem_cons.mpr ⟨mq_9_44, List.forall_mem_cons.mpr ⟨mq_9_45, List.forall_mem_cons.mpr ⟨mq_9_46, List.forall_mem_cons.mpr ⟨mq_9_47, List.forall_mem_cons.mpr ⟨mq_9_48, List.forall_mem_cons.mpr ⟨mq_9_49, List.forall_mem_cons.mpr ⟨mq_9_50, List.forall_mem_cons.mpr ⟨mq_9_51, List.forall_mem_cons.mpr ⟨mq_9_52, List.forall_mem_cons.mpr ⟨mq_9_53, List.forall_mem_cons.mpr ⟨mq_9_54, List.forall_mem_cons.mpr ⟨mq_9_55, List.forall_mem_cons.mpr ⟨mq_9_56, List.forall_mem_cons.mpr ⟨mq_9_57, List.forall_mem_cons.mpr ⟨mq_9_58, List.forall_mem_cons.mpr ⟨mq_9_59, List.forall_mem_cons.mpr ⟨mq_9_60, List.forall_mem_cons.mpr ⟨mq_9_61, List.forall_mem_cons.mpr ⟨mq_9_62, List.forall_mem_cons.mpr ⟨mq_9_63, fun _ h => absurd h List.not_mem_nil⟩⟩⟩⟩⟩⟩⟩⟩⟩⟩⟩⟩⟩⟩⟩⟩⟩⟩⟩⟩⟩⟩⟩⟩⟩⟩⟩⟩⟩⟩⟩⟩⟩⟩⟩⟩⟩⟩⟩⟩⟩⟩⟩⟩⟩⟩⟩⟩⟩⟩⟩⟩⟩⟩⟩⟩⟩⟩⟩⟩⟩⟩⟩⟩
set_option maxRecDepth 20000 in
theorem mq_10_0 : pm_mq 10 (1, 1006, 0) := ⟨fun _ => pm_in6 25 (by rfl) rfl, fun h => absurd h (by decide), fun h => absurd h (by decide), by decide⟩
set_option maxRecDepth 20000 in
theorem mq_10_1 : pm_mq 10 (95, 171, 0) := ⟨fun _ => pm_in7 97 (by rfl) rfl, fun h => absurd h (by decide), fun _ => ⟨mk_171, fun h => absurd h (by decide)⟩, by decide⟩
set_option maxRecDepth 20000 in
theorem mq_10_2 : pm_mq 10 (108, 174, 0) := ⟨fun _ => pm_in6 212 (by rfl) rfl, fun h => absurd h (by decide), fun _ => ⟨mk_174, fun h => absurd h (by decide)⟩, by decide⟩
set_option maxRecDepth 20000 in
theorem mq_10_3 : pm_mq 10 (118, 170, 0) := ⟨fun _ => pm_in6 216 (by rfl) rfl, fun h => absurd h (by decide), fun _ => ⟨mk_170, fun h => absurd h (by decide)⟩, by decide⟩
set_option maxRecDepth 20000 in
theorem mq_10_4 : pm_mq 10 (122, 176, 0) := ⟨fun _ => pm_in6 219 (by rfl) rfl, fun h => absurd h (by decide), fun _ => ⟨mk_176, fun h => absurd h (by decide)⟩, by decide⟩
set_option maxRecDepth 20000 in
theorem mq_10_5 : pm_mq 10 (125, 177, 0) := ⟨fun _ => pm_in6 223 (by rfl) rfl, fun h => absurd h (by decide), fun _ => ⟨mk_177, fun h => absurd h (by decide)⟩, by decide⟩
set_option maxRecDepth 20000 in
theorem mq_10_6 : pm_mq 10 (135, 1004, 0) := ⟨fun _ => pm_in6 236 (by rfl) rfl, fun h => absurd h (by decide), fun h => absurd h (by decide), by decide⟩
set_option maxRecDepth 20000 in
theorem mq_10_7 : pm_mq 10 (141, 1005, 0) := ⟨fun _ => pm_in6 237 (by rfl) rfl, fun h => absurd h (by decide), fun h => absurd h (by decide), by decide⟩
set_option maxRecDepth 20000 in
theorem mq_10_8 : pm_mq 10 (145, 179, 0) := ⟨fun _ => pm_in6 232 (by rfl) rfl, fun h => absurd h (by decide), fun _ => ⟨mk_179, fun h => absurd h (by decide)⟩, by decide⟩
set_option maxRecDepth 20000 in
theorem mq_10_9 : pm_mq 10 (149, 178, 0) := ⟨fun _ => pm_in7 2 (by rfl) rfl, fun h => absurd h (by decide), fun _ => ⟨mk_178, fun h => absurd h (by decide)⟩, by decide⟩
set_option maxRecDepth 20000 in
theorem mq_10_10 : pm_mq 10 (153, 175, 0) := ⟨fun _ => pm_in6 208 (by rfl) rfl, fun h => absurd h (by decide), fun _ => ⟨mk_175, fun h => absurd h (by decide)⟩, by decide⟩
set_option maxRecDepth 20000 in
theorem mq_10_11 : pm_mq 10 (168, 183, 0) := ⟨fun _ => pm_in6 227 (by rfl) rfl, fun h => absurd h (by decide), fun _ => ⟨mk_183, fun h => absurd h (by decide)⟩, by decide⟩
set_option maxRecDepth 20000 in
theorem mq_10_12 : pm_mq 10 (173, 185, 0) := ⟨fun _ => pm_in6 238 (by rfl) rfl, fun h => absurd h (by decide), fun _ => ⟨mk_185, fun h => absurd h (by decide)⟩, by decide⟩
set_option maxRecDepth 20000 in
theorem mq_10_13 : pm_mq 10 (178, 187, 0) := ⟨fun _ => pm_in7 30 (by rfl) rfl, fun h => absurd h (by decide), fun _ => ⟨mk_187, fun h => absurd h (by decide)⟩, by decide⟩
set_option maxRecDepth 20000 in
theorem mq_10_14 : pm_mq 10 (183, 180, 0) := ⟨fun _ => pm_in7 7 (by rfl) rfl, fun h => absurd h (by decide), fun _ => ⟨mk_180, fun h => absurd h (by decide)⟩, by decide⟩
set_option maxRecDepth 20000 in
theorem mq_10_15 : pm_mq 10 (187, 184, 0) := ⟨fun _ => pm_in7 11 (by rfl) rfl, fun h => absurd h (by decide), fun _ => ⟨mk_184, fun h => absurd h (by decide)⟩, by decide⟩
set_option maxRecDepth 20000 in
theorem mq_10_16 : pm_mq 10 (202, 186, 0) := ⟨fun _ => pm_in7 18 (by rfl) rfl, fun h => absurd h (by decide), fun _ => ⟨mk_186, fun h => absurd h (by decide)⟩, by decide⟩
set_option maxRecDepth 20000 in
theorem mq_10_17 : pm_mq 10 (211, 181, 0) := ⟨fun _ => pm_in7 22 (by rfl) rfl, fun h => absurd h (by decide), fun _ => ⟨mk_181, fun h => absurd h (by decide)⟩, by decide⟩
set_option maxRecDepth 20000 in
theorem mq_10_18 : pm_mq 10 (214, 188, 0) := ⟨fun _ => pm_in7 34 (by rfl) rfl, fun h => absurd h (by decide), fun _ => ⟨mk_188, fun h => absurd h (by decide)⟩, by decide⟩
set_option maxRecDepth 20000 in
theorem mq_10_19 : pm_mq 10 (221, 168, 0) := ⟨fun _ => pm_in6 200 (by rfl) rfl, fun h => absurd h (by decide), fun _ => ⟨mk_168, fun h => absurd h (by decide)⟩, by decide⟩
set_option maxRecDepth 20000 in
theorem mq_10_20 : pm_mq 10 (224, 182, 0) := ⟨fun _ => pm_in6 204 (by rfl) rfl, fun h => absurd h (by decide), fun _ => ⟨mk_182, fun h => absurd h (by decide)⟩, by decide⟩
set_option maxRecDepth 20000 in
theorem mq_10_21 : pm_mq 10 (245, 195, 0) := ⟨fun _ => pm_in7 38 (by rfl) rfl, fun h => absurd h (by decide), fun _ => ⟨mk_195, fun h => absurd h (by decide)⟩, by decide⟩
set_option maxRecDepth 20000 in
theorem mq_10_22 : pm_mq 10 (248, 169, 0) := ⟨fun _ => pm_in7 50 (by rfl) rfl, fun h => absurd h (by decide), fun _ => ⟨mk_169, fun h => absurd h (by decide)⟩, by decide⟩
set_option maxRecDepth 20000 in
theorem mq_10_23 : pm_mq 10 (254, 193, 0) := ⟨fun _ => pm_in7 46 (by rfl) rfl, fun h => absurd h (by decide), fun _ => ⟨mk_193, fun h => absurd h (by decide)⟩, by decide⟩
set_option maxRecDepth 20000 in
theorem mq_10_24 : pm_mq 10 (257, 194, 0) := ⟨fun _ => pm_in7 42 (by rfl) rfl, fun h => absurd h (by decide), fun _ => ⟨mk_194, fun h => absurd h (by decide)⟩, by decide⟩
set_option maxRecDepth 20000 in
theorem mq_10_25 : pm_mq 10 (261, 172, 0) := ⟨fun _ => pm_in7 94 (by rfl) rfl, fun h => absurd h (by decide), fun _ => ⟨mk_172, fun h => absurd h (by decide)⟩, by decide⟩
set_option maxRecDepth 20000 in
theorem mq_10_26 : pm_mq 10 (264, 201, 0) := ⟨fun _ => pm_in7 78 (by rfl) rfl, fun h => absurd h (by decide), fun _ => ⟨mk_201, fun h => absurd h (by decide)⟩, by decide⟩
set_option maxRecDepth 20000 in
theorem mq_10_27 : pm_mq 10 (267, 202, 0) := ⟨fun _ => pm_in7 74 (by rfl) rfl, fun h => absurd h (by decide), fun _ => ⟨mk_202, fun h => absurd h (by decide)⟩, by decide⟩
set_option maxRecDepth 20000 in
theorem mq_10_28 : pm_mq 10 (270, 203, 0) := ⟨fun _ => pm_in7 70 (by rfl) rfl, fun h => absurd h (by decide), fun _ => ⟨mk_203, fun h => absurd h (by decide)⟩, by decide⟩
set_option maxRecDepth 20000 in
theorem mq_10_29 : pm_mq 10 (273, 205, 0) := ⟨fun _ => pm_in7 66 (by rfl) rfl, fun h => absurd h (by decide), fun _ => ⟨mk_205, fun h => absurd h (by decide)⟩, by decide⟩
set_option maxRecDepth 20000 in
theorem mq_10_30 : pm_mq 10 (276, 197, 0) := ⟨fun _ => pm_in7 86 (by rfl) rfl, fun h => absurd h (by decide), fun _ => ⟨mk_197, fun h => absurd h (by decide)⟩, by decide⟩
set_option maxRecDepth 20000 in
theorem mq_10_31 : pm_mq 10 (279, 198, 0) := ⟨fun _ => pm_in7 108 (by rfl) rfl, fun h => absurd h (by decide), fun _ => ⟨mk_198, fun h => absurd h (by decide)⟩, by decide⟩
set_option maxRecDepth 20000 in
theorem mq_10_32 : pm_mq 10 (282, 210, 0) := ⟨fun _ => pm_in7 111 (by rfl) rfl, fun h => absurd h (by decide), fun _ => ⟨mk_210, fun h => absurd h (by decide)⟩, by decide⟩
set_option maxRecDepth 20000 in
theorem mq_10_33 : pm_mq 10 (285, 200, 0) := ⟨fun _ => pm_in7 119 (by rfl) rfl, fun h => absurd h (by decide), fun _ => ⟨mk_200, fun h => absurd h (by decide)⟩, by decide⟩
set_option maxRecDepth 20000 in
theorem mq_10_34 : pm_mq 10 (288, 173, 0) := ⟨fun _ => pm_in7 122 (by rfl) rfl, fun h => absurd h (by decide), fun _ => ⟨mk_173, fun h => absurd h (by decide)⟩, by decide⟩
set_option maxRecDepth 20000 in
theorem mq_10_35 : pm_mq 10 (295, 213, 0) := ⟨fun _ => pm_in7 141 (by rfl) rfl, fun h => absurd h (by decide), fun _ => ⟨mk_213, fun h => absurd h (by decide)⟩, by decide⟩
set_option maxRecDepth 20000 in
theorem mq_10_36 : pm_mq 10 (298, 199, 0) := ⟨fun _ => pm_in7 129 (by rfl) rfl, fun h => absurd h (by decide), fun _ => ⟨mk_199, fun h => absurd h (by decide)⟩, by decide⟩
set_option maxRecDepth 20000 in
theorem mq_10_37 : pm_mq 10 (301, 214, 0) := ⟨fun _ => pm_in7 133 (by rfl) rfl, fun h => absurd h (by decide), fun _ => ⟨mk_214, fun h => absurd h (by decide)⟩, by decide⟩
set_option maxRecDepth 20000 in
theorem mq_10_38 : pm_mq 10 (304, 215, 0) := ⟨fun _ => pm_in7 137 (by rfl) rfl, fun h => absurd h (by decide), fun _ => ⟨mk_215, fun h => absurd h (by decide)⟩, by decide⟩
set_option maxRecDepth 20000 in
theorem mq_10_39 : pm_mq 10 (308, 196, 0) := ⟨fun _ => pm_in7 157 (by rfl) rfl, fun h => absurd h (by decide), fun _ => ⟨mk_196, fun h => absurd h (by decide)⟩, by decide⟩
set_option maxRecDepth 20000 in
theorem mq_10_40 : pm_mq 10 (312, 220, 0) := ⟨fun _ => pm_in7 164 (by rfl) rfl, fun h => absurd h (by decide), fun _ => ⟨mk_220, fun h => absurd h (by decide)⟩, by decide⟩
set_option maxRecDepth 20000 in
theorem mq_10_41 : pm_mq 10 (318, 225, 0) := ⟨fun _ => pm_in7 206 (by rfl) rfl, fun h => absurd h (by decide), fun _ => ⟨mk_225, fun h => absurd h (by decide)⟩, by decide⟩
set_option maxRecDepth 20000 in
theorem mq_10_42 : pm_mq 10 (321, 228, 0) := ⟨fun _ => pm_in7 199 (by rfl) rfl, fun h => absurd h (by decide), fun _ => ⟨mk_228, fun h => absurd h (by decide)⟩, by decide⟩
set_option maxRecDepth 20000 in
theorem mq_10_43 : pm_mq 10 (334, 204, 0) := ⟨fun _ => pm_in7 187 (by rfl) rfl, fun h => absurd h (by decide), fun _ => ⟨mk_204, fun h => absurd h (by decide)⟩, by decide⟩
set_option maxRecDepth 20000 in
theorem mq_10_44 : pm_mq 10 (337, 226, 0) := ⟨fun _ => pm_in7 191 (by rfl) rfl, fun h => absurd h (by decide), fun _ => ⟨mk_226, fun h => absurd h (by decide)⟩, by decide⟩
set_option maxRecDepth 20000 in
theorem mq_10_45 : pm_mq 10 (343, 230, 0) := ⟨fun _ => pm_in7 195 (by rfl) rfl, fun h => absurd h (by decide), fun _ => ⟨mk_230, fun h => absurd h (by decide)⟩, by decide⟩
set_option maxRecDepth 20000 in
theorem mq_10_46 : pm_mq 10 (346, 232, 0) := ⟨fun _ => pm_in7 202 (by rfl) rfl, fun h => absurd h (by decide), fun _ => ⟨mk_232, fun h => absurd h (by decide)⟩, by decide⟩
set_option maxRecDepth 20000 in
theorem mq_10_47 : pm_mq 10 (349, 229, 0) := ⟨fun _ => pm_in7 175 (by rfl) rfl, fun h => absurd h (by decide), fun _ => ⟨mk_229, fun h => absurd h (by decide)⟩, by decide⟩
set_option maxRecDepth 20000 in
theorem mq_10_48 : pm_mq 10 (352, 233, 0) := ⟨fun _ => pm_in7 171 (by rfl) rfl, fun h => absurd h (by decide), fun _ => ⟨mk_233, fun h => absurd h (by decide)⟩, by decide⟩
set_option maxRecDepth 20000 in
theorem mq_10_49 : pm_mq 10 (355, 227, 0) := ⟨fun _ => pm_in7 179 (by rfl) rfl, fun h => absurd h (by decide), fun _ => ⟨mk_227, fun h => absurd h (by decide)⟩, by decide⟩
set_option maxRecDepth 20000 in
theorem mq_10_50 : pm_mq 10 (358, 231, 0) := ⟨fun _ => pm_in7 183 (by rfl) rfl, fun h => absurd h (by decide), fun _ => ⟨mk_231, fun h => absurd h (by decide)⟩, by decide⟩
set_option maxRecDepth 20000 in
theorem mq_10_51 : pm_mq 10 (361, 222, 0) := ⟨fun _ => pm_in7 225 (by rfl) rfl, fun h => absurd h (by decide), fun _ => ⟨mk_222, fun h => absurd h (by decide)⟩, by decide⟩
set_option maxRecDepth 20000 in
theorem mq_10_52 : pm_mq 10 (364, 224, 0) := ⟨fun _ => pm_in7 229 (by rfl) rfl, fun h => absurd h (by decide), fun _ => ⟨mk_224, fun h => absurd h (by decide)⟩, by decide⟩
set_option maxRecDepth 20000 in
theorem mq_10_53 : pm_mq 10 (367, 223, 0) := ⟨fun _ => pm_in7 233 (by rfl) rfl, fun h => absurd h (by decide), fun _ => ⟨mk_223, fun h => absurd h (by decide)⟩, by decide⟩
set_option maxRecDepth 20000 in
theorem mq_10_54 : pm_mq 10 (370, 236, 0) := ⟨fun _ => pm_in7 221 (by rfl) rfl, fun h => absurd h (by decide), fun _ => ⟨mk_236, fun h => absurd h (by decide)⟩, by decide⟩
set_option maxRecDepth 20000 in
theorem mq_10_55 : pm_mq 10 (373, 237, 0) := ⟨fun _ => pm_in7 217 (by rfl) rfl, fun h => absurd h (by decide), fun _ => ⟨mk_237, fun h => absurd h (by decide)⟩, by decide⟩
set_option maxRecDepth 20000 in
theorem mq_10_56 : pm_mq 10 (376, 239, 0) := ⟨fun _ => pm_in8 9 (by rfl) rfl, fun h => absurd h (by decide), fun _ => ⟨mk_239, fun h => absurd h (by decide)⟩, by decide⟩
set_option maxRecDepth 20000 in
theorem mq_10_57 : pm_mq 10 (379, 241, 0) := ⟨fun _ => pm_in8 1 (by rfl) rfl, fun h => absurd h (by decide), fun _ => ⟨mk_241, fun h => absurd h (by decide)⟩, by decide⟩
set_option maxRecDepth 20000 in
theorem mq_10_58 : pm_mq 10 (382, 240, 0) := ⟨fun _ => pm_in8 5 (by rfl) rfl, fun h => absurd h (by decide), fun _ => ⟨mk_240, fun h => absurd h (by decide)⟩, by decide⟩
set_option maxRecDepth 20000 in
theorem mq_10_59 : pm_mq 10 (385, 253, 0) := ⟨fun _ => pm_in8 72 (by rfl) rfl, fun h => absurd h (by decide), fun _ => ⟨mk_253, fun h => absurd h (by decide)⟩, by decide⟩
set_option maxRecDepth 20000 in
theorem mq_10_60 : pm_mq 10 (389, 257, 0) := ⟨fun _ => pm_in8 86 (by rfl) rfl, fun h => absurd h (by decide), fun _ => ⟨mk_257, fun h => absurd h (by decide)⟩, by decide⟩
set_option maxRecDepth 20000 in
theorem mq_10_61 : pm_mq 10 (393, 259, 0) := ⟨fun _ => pm_in8 90 (by rfl) rfl, fun h => absurd h (by decide), fun _ => ⟨mk_259, fun h => absurd h (by decide)⟩, by decide⟩
set_option maxRecDepth 20000 in
theorem mq_10_62 : pm_mq 10 (397, 256, 0) := ⟨fun _ => pm_in8 79 (by rfl) rfl, fun h => absurd h (by decide), fun _ => ⟨mk_256, fun h => absurd h (by decide)⟩, by decide⟩
set_option maxRecDepth 20000 in
theorem mq_10_63 : pm_mq 10 (401, 260, 0) := ⟨fun _ => pm_in8 82 (by rfl) rfl, fun h => absurd h (by decide), fun _ => ⟨mk_260, fun h => absurd h (by decide)⟩, by decide⟩
set_option maxRecDepth 20000 in
theorem mq_10_64 : pm_mq 10 (405, 261, 0) := ⟨fun _ => pm_in8 75 (by rfl) rfl, fun h => absurd h (by decide), fun _ => ⟨mk_261, fun h => absurd h (by decide)⟩, by decide⟩
set_option maxRecDepth 20000 in
theorem mq_10_65 : pm_mq 10 (408, 258, 0) := ⟨fun _ => pm_in8 98 (by rfl) rfl, fun h => absurd h (by decide), fun _ => ⟨mk_258, fun h => absurd h (by decide)⟩, by decide⟩
set_option maxRecDepth 20000 in
theorem mq_10_66 : pm_mq 10 (412, 254, 0) := ⟨fun _ => pm_in8 69 (by rfl) rfl, fun h => absurd h (by decide), fun _ => ⟨mk_254, fun h => absurd h (by decide)⟩, by decide⟩
set_option maxRecDepth 20000 in
theorem mq_10_67 : pm_mq 10 (416, 262, 0) := ⟨fun _ => pm_in8 94 (by rfl) rfl, fun h => absurd h (by decide), fun _ => ⟨mk_262, fun h => absurd h (by decide)⟩, by decide⟩
set_option maxRecDepth 20000 in
theorem mq_10_68 : pm_mq 10 (419, 263, 0) := ⟨fun _ => pm_in8 102 (by rfl) rfl, fun h => absurd h (by decide), fun _ => ⟨mk_263, fun h => absurd h (by decide)⟩, by decide⟩
set_option maxRecDepth 20000 in
theorem mq_10_69 : pm_mq 10 (422, 267, 0) := ⟨fun _ => pm_in8 57 (by rfl) rfl, fun h => absurd h (by decide), fun _ => ⟨mk_267, fun h => absurd h (by decide)⟩, by decide⟩
set_option maxRecDepth 20000 in
theorem mq_10_70 : pm_mq 10 (425, 255, 0) := ⟨fun _ => pm_in8 61 (by rfl) rfl, fun h => absurd h (by decide), fun _ => ⟨mk_255, fun h => absurd h (by decide)⟩, by decide⟩
set_option maxRecDepth 20000 in
theorem mq_10_71 : pm_mq 10 (429, 264, 0) := ⟨fun _ => pm_in8 65 (by rfl) rfl, fun h => absurd h (by decide), fun _ => ⟨mk_264, fun h => absurd h (by decide)⟩, by decide⟩
set_option maxRecDepth 20000 in
theorem mq_10_72 : pm_mq 10 (432, 265, 0) := ⟨fun _ => pm_in8 106 (by rfl) rfl, fun h => absurd h (by decide), fun _ => ⟨mk_265, fun h => absurd h (by decide)⟩, by decide⟩
set_option maxRecDepth 20000 in
theorem mq_10_73 : pm_mq 10 (435, 266, 0) := ⟨fun _ => pm_in8 110 (by rfl) rfl, fun h => absurd h (by decide), fun _ => ⟨mk_266, fun h => absurd h (by decide)⟩, by decide⟩
set_option maxRecDepth 20000 in
theorem mq_10_74 : pm_mq 10 (438, 271, 0) := ⟨fun _ => pm_in8 126 (by rfl) rfl, fun h => absurd h (by decide), fun _ => ⟨mk_271, fun h => absurd h (by decide)⟩, by decide⟩
set_option maxRecDepth 20000 in
theorem mq_10_75 : pm_mq 10 (441, 276, 0) := ⟨fun _ => pm_in8 146 (by rfl) rfl, fun h => absurd h (by decide), fun _ => ⟨mk_276, fun h => absurd h (by decide)⟩, by decide⟩
set_option maxRecDepth 20000 in
theorem mqs_10 : ∀ q ∈ pm_mls.getD 10 [], pm_mq 10 q := List.forall_mem_cons.mpr ⟨mq_10_0, List.forall_mem_cons.mpr ⟨mq_10_1, List.forall_mem_cons.mpr ⟨mq_10_2, List.forall_mem_cons.mpr ⟨mq_10_3, List.forall_mem_cons.mpr ⟨mq_10_4, List.forall_mem_cons.mpr ⟨mq_10_5, List.forall_mem_cons.mpr ⟨mq_10_6, List.forall_mem_cons.mpr ⟨mq_10_7, List.forall_mem_cons.mpr ⟨mq_10_8, List.forall_mem_cons.mpr ⟨mq_10_9, List.forall_mem_cons.mpr ⟨mq_10_10, List.forall_mem_cons.mpr ⟨mq_10_11, List.forall_mem_cons.mpr ⟨mq_10_12, List.forall_mem_cons.mpr ⟨mq_10_13, List.forall_mem_cons.mpr ⟨mq_10_14, List.forall_mem_cons.mpr ⟨mq_10_15, List.forall_mem_cons.mpr ⟨mq_10_16, List.forall_mem_cons.mpr ⟨mq_10_17, List.forall_mem_cons.mpr ⟨mq_10_18, List.forall_mem_cons.mpr ⟨mq_10_19, List.forall_mem_cons.mpr ⟨mq_10_20, List.forall_mem_cons.mpr ⟨mq_10_21, List.forall_mem_cons.mpr ⟨mq_10_22, List.forall_mem_cons.mpr ⟨mq_10_23, List.forall_mem_cons.mpr ⟨mq_10_24, List.forall_mem_cons.mpr ⟨mq_10_25, List.forall_mem_cons.mpr ⟨mq_10_26, List.forall_mem_cons.mpr ⟨mq_10_27, List.forall_mem_cons.mpr ⟨mq_10_28, List.forall_mem_cons.mpr ⟨mq_10_29, List.forall_mem_cons.mpr ⟨mq_10_30, List.forall_mem_cons.mpr ⟨mq_10_31, List.forall_mem_cons.mpr ⟨mq_10_32, List.forall_mem_cons.mpr ⟨mq_10_33, List.forall_mem_cons.mpr ⟨mq_10_34, List.forall_mem_cons.mpr ⟨mq_10_35, List.forall_mem_cons.mpr ⟨mq_10_36, List.forall_mem_cons.mpr ⟨mq_10_37, List.forall_mem_cons.mpr ⟨mq_10_38, List.forall_mem_cons.mpr ⟨mq_10_39, List.forall_mem_cons.mpr ⟨mq_10_40, List.forall_mem_cons.mpr ⟨mq_10_41, List.forall_mem_cons.mpr ⟨mq_10_42, List.forall_mem_cons.mpr ⟨mq_10_43, List.forall_mem_cons.mpr ⟨mq_10_44, List.forall_mem_cons.mpr ⟨mq_10_45, List.forall_mem_cons.mpr ⟨mq_10_46, List.forall_mem_cons.mpr ⟨mq_10_47, List.forall_mem_cons.mpr ⟨mq_10_48, List.forall_mem_cons.mpr ⟨mq_10_49, List.forall_mem_cons.mpr ⟨mq_10_50, List.forall_mem_cons.mpr ⟨mq_10_51, List.forall_mem_cons.mpr ⟨mq_10_52, List.forall_mem_cons.mpr ⟨mq_10_53, List.forall_mem_cons.mpr ⟨mq_10_54, List.forall_mem_cons.mpr ⟨mq_10_55, List.forall_mem_cons.mpr ⟨mq_10_56, List.forall_mem_cons.mpr ⟨mq_10_57, List.forall_mem_cons.mpr ⟨mq_10_58, List.forall_mem_cons.mpr ⟨mq_10_59, List.forall_mem_cons.mpr ⟨mq_10_60, List.forall_mem_cons.mpr ⟨mq_10_61, List.forall_mem_cons.mpr ⟨mq_10_62, List.forall_mem_cons.mpr ⟨mq_10_63, List.forall_mem_cons.mpr ⟨mq_10_64, List.forall_mem_cons.mpr ⟨mq_10_65, List.forall_mem_cons.mpr ⟨mq_10_66, List.forall_mem_cons.mpr ⟨mq_10_67, List.forall_mem_cons.mpr ⟨mq_10_68, List.forall_mem_cons.mpr ⟨mq_10_69, List.forall_mem_cons.mpr ⟨mq_10_70, List.forall_mem_cons.mpr ⟨mq_10_71, List.forall_mem_cons.mpr ⟨mq_10_72, List.forall_mem_cons.mpr ⟨mq_10_73, List.forall_mem_cons.mpr ⟨mq_10_74, List.forall_mem_cons.mpr ⟨mq_10_75, fun _ h => absurd h List.not_mem_nil⟩⟩⟩⟩⟩⟩⟩⟩⟩⟩⟩⟩⟩⟩⟩⟩⟩⟩⟩⟩⟩⟩⟩⟩⟩⟩⟩⟩⟩⟩⟩⟩⟩⟩⟩⟩⟩⟩⟩⟩⟩⟩⟩⟩⟩⟩⟩⟩⟩⟩⟩⟩⟩⟩⟩⟩⟩⟩⟩⟩⟩⟩⟩⟩⟩⟩⟩⟩⟩⟩⟩⟩⟩⟩⟩⟩
set_option maxRecDepth 20000 in
theorem mq_11_0 : pm_mq 11 (15, 106, 0) := ⟨fun _ => pm_in1 26 (by rfl) rfl, fun h => absurd h (by decide), fun _ => ⟨mk_106, fun h => absurd h (by decide)⟩, by decide⟩
set_option maxRecDepth 20000 in
theorem mq_11_1 : pm_mq 11 (18, 166, 0) := ⟨fun _ => pm_in6 22 (by rfl) rfl, fun h => absurd h (by decide), fun _ => ⟨mk_166, fun h => absurd h (by decide)⟩, by decide⟩
set_option maxRecDepth 20000 in
theorem mq_11_2 : pm_mq 11 (19, 107, 0) := ⟨fun _ => pm_in2 179 (by rfl) rfl, fun h => absurd h (by decide), fun _ => ⟨mk_107, fun h => absurd h (by decide)⟩, by decide⟩
set_option maxRecDepth 20000 in
theorem mq_11_3 : pm_mq 11 (23, 189, 0) := ⟨fun _ => pm_in6 192 (by rfl) rfl, fun h => absurd h (by decide), fun _ => ⟨mk_189, fun h => absurd h (by decide)⟩, by decide⟩
set_option maxRecDepth 20000 in
theorem mq_11_4 : pm_mq 11 (24, 108, 0) := ⟨fun _ => pm_in2 187 (by rfl) rfl, fun h => absurd h (by decide), fun _ => ⟨mk_108, fun h => absurd h (by decide)⟩, by decide⟩
set_option maxRecDepth 20000 in
theorem mq_11_5 : pm_mq 11 (27, 190, 0) := ⟨fun _ => pm_in6 196 (by rfl) rfl, fun h => absurd h (by decide), fun _ => ⟨mk_190, fun h => absurd h (by decide)⟩, by decide⟩
set_option maxRecDepth 20000 in
theorem mq_11_6 : pm_mq 11 (28, 109, 0) := ⟨fun _ => pm_in3 127 (by rfl) rfl, fun h => absurd h (by decide), fun _ => ⟨mk_109, fun h => absurd h (by decide)⟩, by decide⟩
set_option maxRecDepth 20000 in
theorem mq_11_7 : pm_mq 11 (32, 191, 0) := ⟨fun _ => pm_in7 54 (by rfl) rfl, fun h => absurd h (by decide), fun _ => ⟨mk_191, fun h => absurd h (by decide)⟩, by decide⟩
set_option maxRecDepth 20000 in
theorem mq_11_8 : pm_mq 11 (33, 110, 0) := ⟨fun _ => pm_in3 131 (by rfl) rfl, fun h => absurd h (by decide), fun _ => ⟨mk_110, fun h => absurd h (by decide)⟩, by decide⟩
set_option maxRecDepth 20000 in
theorem mq_11_9 : pm_mq 11 (36, 192, 0) := ⟨fun _ => pm_in7 58 (by rfl) rfl, fun h => absurd h (by decide), fun _ => ⟨mk_192, fun h => absurd h (by decide)⟩, by decide⟩
set_option maxRecDepth 20000 in
theorem mq_11_10 : pm_mq 11 (37, 111, 0) := ⟨fun _ => pm_in3 135 (by rfl) rfl, fun h => absurd h (by decide), fun _ => ⟨mk_111, fun h => absurd h (by decide)⟩, by decide⟩
set_option maxRecDepth 20000 in
theorem mq_11_11 : pm_mq 11 (40, 206, 0) := ⟨fun _ => pm_in7 62 (by rfl) rfl, fun h => absurd h (by decide), fun _ => ⟨mk_206, fun h => absurd h (by decide)⟩, by decide⟩
set_option maxRecDepth 20000 in
theorem mq_11_12 : pm_mq 11 (41, 112, 0) := ⟨fun _ => pm_in3 143 (by rfl) rfl, fun h => absurd h (by decide), fun _ => ⟨mk_112, fun h => absurd h (by decide)⟩, by decide⟩
set_option maxRecDepth 20000 in
theorem mq_11_13 : pm_mq 11 (44, 207, 0) := ⟨fun _ => pm_in7 82 (by rfl) rfl, fun h => absurd h (by decide), fun _ => ⟨mk_207, fun h => absurd h (by decide)⟩, by decide⟩
set_option maxRecDepth 20000 in
theorem mq_11_14 : pm_mq 11 (45, 113, 0) := ⟨fun _ => pm_in3 151 (by rfl) rfl, fun h => absurd h (by decide), fun _ => ⟨mk_113, fun h => absurd h (by decide)⟩, by decide⟩
set_option maxRecDepth 20000 in
theorem mq_11_15 : pm_mq 11 (49, 208, 0) := ⟨fun _ => pm_in7 90 (by rfl) rfl, fun h => absurd h (by decide), fun _ => ⟨mk_208, fun h => absurd h (by decide)⟩, by decide⟩
set_option maxRecDepth 20000 in
theorem mq_11_16 : pm_mq 11 (50, 114, 0) := ⟨fun _ => pm_in3 161 (by rfl) rfl, fun h => absurd h (by decide), fun _ => ⟨mk_114, fun h => absurd h (by decide)⟩, by decide⟩
set_option maxRecDepth 20000 in
theorem mq_11_17 : pm_mq 11 (53, 209, 0) := ⟨fun _ => pm_in7 100 (by rfl) rfl, fun h => absurd h (by decide), fun _ => ⟨mk_209, fun h => absurd h (by decide)⟩, by decide⟩
set_option maxRecDepth 20000 in
theorem mq_11_18 : pm_mq 11 (54, 115, 0) := ⟨fun _ => pm_in3 168 (by rfl) rfl, fun h => absurd h (by decide), fun _ => ⟨mk_115, fun h => absurd h (by decide)⟩, by decide⟩
set_option maxRecDepth 20000 in
theorem mq_11_19 : pm_mq 11 (58, 211, 0) := ⟨fun _ => pm_in7 104 (by rfl) rfl, fun h => absurd h (by decide), fun _ => ⟨mk_211, fun h => absurd h (by decide)⟩, by decide⟩
set_option maxRecDepth 20000 in
theorem mq_11_20 : pm_mq 11 (59, 116, 0) := ⟨fun _ => pm_in3 172 (by rfl) rfl, fun h => absurd h (by decide), fun _ => ⟨mk_116, fun h => absurd h (by decide)⟩, by decide⟩
set_option maxRecDepth 20000 in
theorem mq_11_21 : pm_mq 11 (63, 212, 0) := ⟨fun _ => pm_in7 115 (by rfl) rfl, fun h => absurd h (by decide), fun _ => ⟨mk_212, fun h => absurd h (by decide)⟩, by decide⟩
set_option maxRecDepth 20000 in
theorem mq_11_22 : pm_mq 11 (64, 117, 0) := ⟨fun _ => pm_in3 190 (by rfl) rfl, fun h => absurd h (by decide), fun _ => ⟨mk_117, fun h => absurd h (by decide)⟩, by decide⟩
set_option maxRecDepth 20000 in
theorem mq_11_23 : pm_mq 11 (67, 216, 0) := ⟨fun _ => pm_in7 125 (by rfl) rfl, fun h => absurd h (by decide), fun _ => ⟨mk_216, fun h => absurd h (by decide)⟩, by decide⟩
set_option maxRecDepth 20000 in
theorem mq_11_24 : pm_mq 11 (68, 118, 0) := ⟨fun _ => pm_in3 208 (by rfl) rfl, fun h => absurd h (by decide), fun _ => ⟨mk_118, fun h => absurd h (by decide)⟩, by decide⟩
set_option maxRecDepth 20000 in
theorem mq_11_25 : pm_mq 11 (71, 217, 0) := ⟨fun _ => pm_in7 145 (by rfl) rfl, fun h => absurd h (by decide), fun _ => ⟨mk_217, fun h => absurd h (by decide)⟩, by decide⟩
set_option maxRecDepth 20000 in
theorem mq_11_26 : pm_mq 11 (72, 119, 0) := ⟨fun _ => pm_in4 0 (by rfl) rfl, fun h => absurd h (by decide), fun _ => ⟨mk_119, fun h => absurd h (by decide)⟩, by decide⟩
set_option maxRecDepth 20000 in
theorem mq_11_27 : pm_mq 11 (75, 218, 0) := ⟨fun _ => pm_in7 149 (by rfl) rfl, fun h => absurd h (by decide), fun _ => ⟨mk_218, fun h => absurd h (by decide)⟩, by decide⟩
set_option maxRecDepth 20000 in
theorem mq_11_28 : pm_mq 11 (76, 120, 0) := ⟨fun _ => pm_in4 8 (by rfl) rfl, fun h => absurd h (by decide), fun _ => ⟨mk_120, fun h => absurd h (by decide)⟩, by decide⟩
set_option maxRecDepth 20000 in
theorem mq_11_29 : pm_mq 11 (80, 219, 0) := ⟨fun _ => pm_in7 153 (by rfl) rfl, fun h => absurd h (by decide), fun _ => ⟨mk_219, fun h => absurd h (by decide)⟩, by decide⟩
set_option maxRecDepth 20000 in
theorem mq_11_30 : pm_mq 11 (81, 121, 0) := ⟨fun _ => pm_in4 15 (by rfl) rfl, fun h => absurd h (by decide), fun _ => ⟨mk_121, fun h => absurd h (by decide)⟩, by decide⟩
set_option maxRecDepth 20000 in
theorem mq_11_31 : pm_mq 11 (84, 221, 0) := ⟨fun _ => pm_in7 160 (by rfl) rfl, fun h => absurd h (by decide), fun _ => ⟨mk_221, fun h => absurd h (by decide)⟩, by decide⟩
set_option maxRecDepth 20000 in
theorem mq_11_32 : pm_mq 11 (85, 122, 0) := ⟨fun _ => pm_in4 32 (by rfl) rfl, fun h => absurd h (by decide), fun _ => ⟨mk_122, fun h => absurd h (by decide)⟩, by decide⟩
set_option maxRecDepth 20000 in
theorem mq_11_33 : pm_mq 11 (88, 234, 0) := ⟨fun _ => pm_in7 167 (by rfl) rfl, fun h => absurd h (by decide), fun _ => ⟨mk_234, fun h => absurd h (by decide)⟩, by decide⟩
set_option maxRecDepth 20000 in
theorem mq_11_34 : pm_mq 11 (89, 123, 0) := ⟨fun _ => pm_in4 90 (by rfl) rfl, fun h => absurd h (by decide), fun _ => ⟨mk_123, fun h => absurd h (by decide)⟩, by decide⟩
set_option maxRecDepth 20000 in
theorem mq_11_35 : pm_mq 11 (92, 235, 0) := ⟨fun _ => pm_in7 209 (by rfl) rfl, fun h => absurd h (by decide), fun _ => ⟨mk_235, fun h => absurd h (by decide)⟩, by decide⟩
set_option maxRecDepth 20000 in
theorem mq_11_36 : pm_mq 11 (93, 124, 0) := ⟨fun _ => pm_in4 94 (by rfl) rfl, fun h => absurd h (by decide), fun _ => ⟨mk_124, fun h => absurd h (by decide)⟩, by decide⟩
set_option maxRecDepth 20000 in
theorem mq_11_37 : pm_mq 11 (96, 238, 0) := ⟨fun _ => pm_in7 213 (by rfl) rfl, fun h => absurd h (by decide), fun _ => ⟨mk_238, fun h => absurd h (by decide)⟩, by decide⟩
set_option maxRecDepth 20000 in
theorem mq_11_38 : pm_mq 11 (97, 125, 0) := ⟨fun _ => pm_in4 114 (by rfl) rfl, fun h => absurd h (by decide), fun _ => ⟨mk_125, fun h => absurd h (by decide)⟩, by decide⟩
set_option maxRecDepth 20000 in
theorem mq_11_39 : pm_mq 11 (100, 242, 0) := ⟨fun _ => pm_in7 237 (by rfl) rfl, fun h => absurd h (by decide), fun _ => ⟨mk_242, fun h => absurd h (by decide)⟩, by decide⟩
set_option maxRecDepth 20000 in
theorem mq_11_40 : pm_mq 11 (101, 126, 0) := ⟨fun _ => pm_in4 137 (by rfl) rfl, fun h => absurd h (by decide), fun _ => ⟨mk_126, fun h => absurd h (by decide)⟩, by decide⟩
set_option maxRecDepth 20000 in
theorem mq_11_41 : pm_mq 11 (104, 243, 0) := ⟨fun _ => pm_in8 13 (by rfl) rfl, fun h => absurd h (by decide), fun _ => ⟨mk_243, fun h => absurd h (by decide)⟩, by decide⟩
set_option maxRecDepth 20000 in
theorem mq_11_42 : pm_mq 11 (105, 127, 0) := ⟨fun _ => pm_in4 141 (by rfl) rfl, fun h => absurd h (by decide), fun _ => ⟨mk_127, fun h => absurd h (by decide)⟩, by decide⟩
set_option maxRecDepth 20000 in
theorem mq_11_43 : pm_mq 11 (108, 244, 0) := ⟨fun _ => pm_in8 17 (by rfl) rfl, fun h => absurd h (by decide), fun _ => ⟨mk_244, fun h => absurd h (by decide)⟩, by decide⟩
set_option maxRecDepth 20000 in
theorem mq_11_44 : pm_mq 11 (109, 128, 0) := ⟨fun _ => pm_in4 151 (by rfl) rfl, fun h => absurd h (by decide), fun _ => ⟨mk_128, fun h => absurd h (by decide)⟩, by decide⟩
set_option maxRecDepth 20000 in
theorem mq_11_45 : pm_mq 11 (112, 245, 0) := ⟨fun _ => pm_in8 21 (by rfl) rfl, fun h => absurd h (by decide), fun _ => ⟨mk_245, fun h => absurd h (by decide)⟩, by decide⟩
set_option maxRecDepth 20000 in
theorem mq_11_46 : pm_mq 11 (113, 129, 0) := ⟨fun _ => pm_in4 159 (by rfl) rfl, fun h => absurd h (by decide), fun _ => ⟨mk_129, fun h => absurd h (by decide)⟩, by decide⟩
set_option maxRecDepth 20000 in
theorem mq_11_47 : pm_mq 11 (116, 246, 0) := ⟨fun _ => pm_in8 25 (by rfl) rfl, fun h => absurd h (by decide), fun _ => ⟨mk_246, fun h => absurd h (by decide)⟩, by decide⟩
set_option maxRecDepth 20000 in
theorem mq_11_48 : pm_mq 11 (117, 130, 0) := ⟨fun _ => pm_in4 167 (by rfl) rfl, fun h => absurd h (by decide), fun _ => ⟨mk_130, fun h => absurd h (by decide)⟩, by decide⟩
set_option maxRecDepth 20000 in
theorem mq_11_49 : pm_mq 11 (120, 247, 0) := ⟨fun _ => pm_in8 29 (by rfl) rfl, fun h => absurd h (by decide), fun _ => ⟨mk_247, fun h => absurd h (by decide)⟩, by decide⟩
set_option maxRecDepth 20000 in
theorem mq_11_50 : pm_mq 11 (121, 131, 0) := ⟨fun _ => pm_in4 175 (by rfl) rfl, fun h => absurd h (by decide), fun _ => ⟨mk_131, fun h => absurd h (by decide)⟩, by decide⟩
set_option maxRecDepth 20000 in
theorem mq_11_51 : pm_mq 11 (124, 248, 0) := ⟨fun _ => pm_in8 33 (by rfl) rfl, fun h => absurd h (by decide), fun _ => ⟨mk_248, fun h => absurd h (by decide)⟩, by decide⟩
set_option maxRecDepth 20000 in
theorem mq_11_52 : pm_mq 11 (125, 132, 0) := ⟨fun _ => pm_in4 184 (by rfl) rfl, fun h => absurd h (by decide), fun _ => ⟨mk_132, fun h => absurd h (by decide)⟩, by decide⟩
set_option maxRecDepth 20000 in
theorem mq_11_53 : pm_mq 11 (128, 249, 0) := ⟨fun _ => pm_in8 37 (by rfl) rfl, fun h => absurd h (by decide), fun _ => ⟨mk_249, fun h => absurd h (by decide)⟩, by decide⟩
set_option maxRecDepth 20000 in
theorem mq_11_54 : pm_mq 11 (129, 133, 0) := ⟨fun _ => pm_in4 192 (by rfl) rfl, fun h => absurd h (by decide), fun _ => ⟨mk_133, fun h => absurd h (by decide)⟩, by decide⟩
set_option maxRecDepth 20000 in
theorem mq_11_55 : pm_mq 11 (132, 250, 0) := ⟨fun _ => pm_in8 41 (by rfl) rfl, fun h => absurd h (by decide), fun _ => ⟨mk_250, fun h => absurd h (by decide)⟩, by decide⟩
set_option maxRecDepth 20000 in
theorem mq_11_56 : pm_mq 11 (133, 134, 0) := ⟨fun _ => pm_in4 196 (by rfl) rfl, fun h => absurd h (by decide), fun _ => ⟨mk_134, fun h => absurd h (by decide)⟩, by decide⟩
set_option maxRecDepth 20000 in
theorem mq_11_57 : pm_mq 11 (136, 251, 0) := ⟨fun _ => pm_in8 45 (by rfl) rfl, fun h => absurd h (by decide), fun _ => ⟨mk_251, fun h => absurd h (by decide)⟩, by decide⟩
set_option maxRecDepth 20000 in
theorem mq_11_58 : pm_mq 11 (137, 135, 0) := ⟨fun _ => pm_in4 200 (by rfl) rfl, fun h => absurd h (by decide), fun _ => ⟨mk_135, fun h => absurd h (by decide)⟩, by decide⟩
set_option maxRecDepth 20000 in
theorem mq_11_59 : pm_mq 11 (140, 252, 0) := ⟨fun _ => pm_in8 49 (by rfl) rfl, fun h => absurd h (by decide), fun _ => ⟨mk_252, fun h => absurd h (by decide)⟩, by decide⟩
set_option maxRecDepth 20000 in
theorem mq_11_60 : pm_mq 11 (141, 136, 0) := ⟨fun _ => pm_in4 204 (by rfl) rfl, fun h => absurd h (by decide), fun _ => ⟨mk_136, fun h => absurd h (by decide)⟩, by decide⟩
set_option maxRecDepth 20000 in
theorem mq_11_61 : pm_mq 11 (144, 268, 0) := ⟨fun _ => pm_in8 53 (by rfl) rfl, fun h => absurd h (by decide), fun _ => ⟨mk_268, fun h => absurd h (by decide)⟩, by decide⟩
set_option maxRecDepth 20000 in
theorem mq_11_62 : pm_mq 11 (145, 137, 0) := ⟨fun _ => pm_in5 118 (by rfl) rfl, fun h => absurd h (by decide), fun _ => ⟨mk_137, fun h => absurd h (by decide)⟩, by decide⟩
set_option maxRecDepth 20000 in
theorem mq_11_63 : pm_mq 11 (148, 269, 0) := ⟨fun _ => pm_in8 114 (by rfl) rfl, fun h => absurd h (by decide), fun _ => ⟨mk_269, fun h => absurd h (by decide)⟩, by decide⟩
set_option maxRecDepth 20000 in
theorem mq_11_64 : pm_mq 11 (149, 138, 0) := ⟨fun _ => pm_in5 126 (by rfl) rfl, fun h => absurd h (by decide), fun _ => ⟨mk_138, fun h => absurd h (by decide)⟩, by decide⟩
set_option maxRecDepth 20000 in
theorem mq_11_65 : pm_mq 11 (152, 270, 0) := ⟨fun _ => pm_in8 118 (by rfl) rfl, fun h => absurd h (by decide), fun _ => ⟨mk_270, fun h => absurd h (by decide)⟩, by decide⟩
set_option maxRecDepth 20000 in
theorem mq_11_66 : pm_mq 11 (153, 139, 0) := ⟨fun _ => pm_in5 134 (by rfl) rfl, fun h => absurd h (by decide), fun _ => ⟨mk_139, fun h => absurd h (by decide)⟩, by decide⟩
set_option maxRecDepth 20000 in
theorem mq_11_67 : pm_mq 11 (156, 272, 0) := ⟨fun _ => pm_in8 122 (by rfl) rfl, fun h => absurd h (by decide), fun _ => ⟨mk_272, fun h => absurd h (by decide)⟩, by decide⟩
set_option maxRecDepth 20000 in
theorem mq_11_68 : pm_mq 11 (157, 140, 0) := ⟨fun _ => pm_in5 142 (by rfl) rfl, fun h => absurd h (by decide), fun _ => ⟨mk_140, fun h => absurd h (by decide)⟩, by decide⟩
set_option maxRecDepth 20000 in
theorem mq_11_69 : pm_mq 11 (160, 273, 0) := ⟨fun _ => pm_in8 130 (by rfl) rfl, fun h => absurd h (by decide), fun _ => ⟨mk_273, fun h => absurd h (by decide)⟩, by decide⟩
set_option maxRecDepth 20000 in
theorem mq_11_70 : pm_mq 11 (161, 141, 0) := ⟨fun _ => pm_in5 162 (by rfl) rfl, fun h => absurd h (by decide), fun _ => ⟨mk_141, fun h => absurd h (by decide)⟩, by decide⟩
set_option maxRecDepth 20000 in
theorem mq_11_71 : pm_mq 11 (165, 274, 0) := ⟨fun _ => pm_in8 134 (by rfl) rfl, fun h => absurd h (by decide), fun _ => ⟨mk_274, fun h => absurd h (by decide)⟩, by decide⟩
set_option maxRecDepth 20000 in
theorem mq_11_72 : pm_mq 11 (166, 1007, 0) := ⟨fun _ => pm_in5 183 (by rfl) rfl, fun h => absurd h (by decide), fun h => absurd h (by decide), by decide⟩
set_option maxRecDepth 20000 in
theorem mq_11_73 : pm_mq 11 (171, 275, 0) := ⟨fun _ => pm_in8 138 (by rfl) rfl, fun h => absurd h (by decide), fun _ => ⟨mk_275, fun h => absurd h (by decide)⟩, by decide⟩
set_option maxRecDepth 20000 in
theorem mq_11_74 : pm_mq 11 (172, 167, 0) := ⟨fun _ => pm_in6 188 (by rfl) rfl, fun h => absurd h (by decide), fun _ => ⟨mk_167, fun h => absurd h (by decide)⟩, by decide⟩
set_option maxRecDepth 20000 in
theorem mq_11_75 : pm_mq 11 (175, 143, 0) := ⟨fun _ => pm_in5 171 (by rfl) rfl, fun h => absurd h (by decide), fun _ => ⟨mk_143, fun h => absurd h (by decide)⟩, by decide⟩
set_option maxRecDepth 20000 in
theorem mq_11_76 : pm_mq 11 (178, 277, 0) := ⟨fun _ => pm_in8 142 (by rfl) rfl, fun h => absurd h (by decide), fun _ => ⟨mk_277, fun h => absurd h (by decide)⟩, by decide⟩
set_option maxRecDepth 20000 in
theorem mq_11_77 : pm_mq 11 (179, 144, 0) := ⟨fun _ => pm_in5 179 (by rfl) rfl, fun h => absurd h (by decide), fun _ => ⟨mk_144, fun h => absurd h (by decide)⟩, by decide⟩
set_option maxRecDepth 20000 in
theorem mq_11_78 : pm_mq 11 (182, 278, 0) := ⟨fun _ => pm_in8 150 (by rfl) rfl, fun h => absurd h (by decide), fun _ => ⟨mk_278, fun h => absurd h (by decide)⟩, by decide⟩
set_option maxRecDepth 20000 in
theorem mqs_11 : ∀ q ∈ pm_mls.getD 11 [], pm_mq 11 q := List.forall_mem_cons.mpr ⟨mq_11_0, List.forall_mem_cons.mpr ⟨mq_11_1, List.forall_mem_cons.mpr ⟨mq_11_2, List.forall_mem_cons.mpr ⟨mq_11_3, List.forall_mem_cons.mpr ⟨mq_11_4, List.forall_mem_cons.mpr ⟨mq_11_5, List.forall_mem_cons.mpr ⟨mq_11_6, List.forall_mem_cons.mpr ⟨mq_11_7, List.forall_mem_cons.mpr ⟨mq_11_8, List.forall_mem_cons.mpr ⟨mq_11_9, List.forall_mem_cons.mpr ⟨mq_11_10, List.forall_mem_cons.mpr ⟨mq_11_11, List.forall_mem_cons.mpr ⟨mq_11_12, List.forall_mem_cons.mpr ⟨mq_11_13, List.forall_mem_cons.mpr ⟨mq_11_14, List.forall_mem_cons.mpr ⟨mq_11_15, List.forall_mem_cons.mpr ⟨mq_11_16, List.forall_mem_cons.mpr ⟨mq_11_17, List.forall_mem_cons.mpr ⟨mq_11_18, List.forall_mem_cons.mpr ⟨mq_11_19, List.forall_mem_cons.mpr ⟨mq_11_20, List.forall_mem_cons.mpr ⟨mq_11_21, List.forall_mem_cons.mpr ⟨mq_11_22, List.forall_mem_cons.mpr ⟨mq_11_23, List.forall_mem_cons.mpr ⟨mq_11_24, List.forall_mem_cons.mpr ⟨mq_11_25, List.forall_mem_cons.mpr ⟨mq_11_26, List.forall_mem_cons.mpr ⟨mq_11_27, List.forall_mem_cons.mpr ⟨mq_11_28, List.forall_mem_cons.mpr ⟨mq_11_29, List.forall_mem_cons.mpr ⟨mq_11_30, List.forall_mem_cons.mpr ⟨mq_11_31, List.forall_mem_cons.mpr ⟨mq_11_32, List.forall_mem_cons.mpr ⟨mq_11_33, List.forall_mem_cons.mpr ⟨mq_11_34, List.forall_mem_cons.mpr ⟨mq_11_35, List.forall_mem_cons.mpr ⟨mq_11_36, List.forall_mem_cons.mpr ⟨mq_11_37, List.forall_mem_cons.mpr ⟨mq_11_38, List.forall_mem_cons.mpr ⟨mq_11_39, List.forall_mem_cons.mpr ⟨mq_11_40, List.forall_mem_cons.mpr ⟨mq_11_41, List.forall_mem_cons.mpr ⟨mq_11_42, List.forall_mem_cons.mpr ⟨mq_11_43, List.forall_mem_cons.mpr ⟨mq_11_44, List.forall_mem_cons.mpr ⟨mq_11_45, List.forall_mem_cons.mpr ⟨mq_11_46, List.forall_mem_cons.mpr ⟨mq_11_47, List.forall_mem_cons.mpr ⟨mq_11_48, List.forall_mem_cons.mpr ⟨mq_11_49, List.forall_mem_cons.mpr ⟨mq_11_50, List.forall_mem_cons.mpr ⟨mq_11_51, List.forall_mem_cons.mpr ⟨mq_11_52, List.forall_mem_cons.mpr ⟨mq_11_53, List.forall_mem_cons.mpr ⟨mq_11_54, List.forall_mem_cons.mpr ⟨mq_11_55, List.forall_mem_cons.mpr ⟨mq_11_56, List.forall_mem_cons.mpr ⟨mq_11_57, List.forall_mem_cons.mpr ⟨mq_11_58, List.forall_mem_cons.mpr ⟨mq_11_59, List.forall_mem_cons.mpr ⟨mq_11_60, List.forall_mem_cons.mpr ⟨mq_11_61, List.forall_mem_cons.mpr ⟨mq_11_62, List.forall_mem_cons.mpr ⟨mq_11_63, List.forall_mem_cons.mpr ⟨mq_11_64, List.forall_mem_cons.mpr ⟨mq_11_65, List.forall_mem_cons.mpr ⟨mq_11_66, List.forall_mem_cons.mpr ⟨mq_11_67, List.forall_mem_cons.mpr ⟨mq_11_68, List.forall_mem_cons.mpr ⟨mq_11_69, List.forall_mem_cons.mpr ⟨mq_11_70, List.forall_mem_cons.mpr ⟨mq_11_71, List.forall_mem_cons.mpr ⟨mq_11_72, List.forall_mem_cons.mpr ⟨mq_11_73, List.forall_mem_cons.mpr ⟨mq_11_74, List.forall_mem_cons.mpr ⟨mq_11_75, List.forall_mem_cons.mpr ⟨mq_11_76, List.forall_mem_cons.mpr ⟨mq_11_77, List.forall_mem_cons.mpr ⟨mq_11_78, fun _ h => absurd h List.not_mem_nil⟩⟩⟩⟩⟩⟩⟩⟩⟩⟩⟩⟩⟩⟩⟩⟩⟩⟩⟩⟩⟩⟩⟩⟩⟩⟩⟩⟩⟩⟩⟩⟩⟩⟩⟩⟩⟩⟩⟩⟩⟩⟩⟩⟩⟩⟩⟩⟩⟩⟩⟩⟩⟩⟩⟩⟩⟩⟩⟩⟩⟩⟩⟩⟩⟩⟩⟩⟩⟩⟩⟩⟩⟩⟩⟩⟩⟩⟩⟩
set_option maxRecDepth 20000 in
theorem mqs_12 : ∀ q ∈ pm_mls.getD 12 [], pm_mq 12 q := fun _ h => absurd h List.not_mem_nil
set_option maxRecDepth 20000 in
theorem mqs_13 : ∀ q ∈ pm_mls.getD 13 [], pm_mq 13 q := fun _ h => absurd h List.not_mem_nil
theorem fq_0_0 : pm_fq 0 (12, 0, 2) := ⟨pm_in1 123 (by rfl) rfl, by decide, by decide, by decide⟩
theorem fq_0_1 : pm_fq 0 (21, 0, 3) := ⟨pm_in1 124 (by rfl) rfl, by decide, by decide, by decide⟩
theorem fq_0_2 : pm_fq 0 (25, 0, 4) := ⟨pm_in1 125 (by rfl) rfl, by decide, by decide, by decide⟩
theorem fq_0_3 : pm_fq 0 (29, 0, 5) := ⟨pm_in1 126 (by rfl) rfl, by decide, by decide, by decide⟩
theorem fq_0_4 : pm_fq 0 (32, 0, 6) := ⟨pm_in1 127 (by rfl) rfl, by decide, by decide, by decide⟩
theorem fq_0_5 : pm_fq 0 (35, 0, 7) := ⟨pm_in1 128 (by rfl) rfl, by decide, by decide, by decide⟩
theorem fq_0_6 : pm_fq 0 (38, 0, 8) := ⟨pm_in1 129 (by rfl) rfl, by decide, by decide, by decide⟩
theorem fq_0_7 : pm_fq 0 (41, 0, 0) := ⟨pm_in1 118 (by rfl) rfl, by decide, by decide, by decide⟩
theorem fq_0_8 : pm_fq 0 (45, 0, 1) := ⟨pm_in1 121 (by rfl) rfl, by decide, by decide, by decide⟩
theorem fq_0_9 : pm_fq 0 (48, 7, 2) := ⟨pm_in1 107 (by rfl) rfl, by decide, by decide, by decide⟩
theorem fq_0_10 : pm_fq 0 (52, 7, 0) := ⟨pm_in1 96 (by rfl) rfl, by decide, by decide, by decide⟩
theorem fq_0_11 : pm_fq 0 (61, 7, 1) := ⟨pm_in1 101 (by rfl) rfl, by decide, by decide, by decide⟩
theorem fq_0_12 : pm_fq 0 (101, 6, 4) := ⟨pm_in1 68 (by rfl) rfl, by decide, by decide, by decide⟩
theorem fq_0_13 : pm_fq 0 (117, 5, 0) := ⟨pm_in1 41 (by rfl) rfl, by decide, by decide, by decide⟩
set_option maxRecDepth 20000 in
theorem fqs_0 : ∀ q ∈ pm_fls.getD 0 [], pm_fq 0 q := List.forall_mem_cons.mpr ⟨fq_0_0, List.forall_mem_cons.mpr ⟨fq_0_1, List.forall_mem_cons.mpr ⟨fq_0_2, List.forall_mem_cons.mpr ⟨fq_0_3, List.forall_mem_cons.mpr ⟨fq_0_4, List.forall_mem_cons.mpr ⟨fq_0_5, List.forall_mem_cons.mpr ⟨fq_0_6, List.forall_mem_cons.mpr ⟨fq_0_7, List.forall_mem_cons.mpr ⟨fq_0_8, List.forall_mem_cons.mpr ⟨fq_0_9, List.forall_mem_cons.mpr ⟨fq_0_10, List.forall_mem_cons.mpr ⟨fq_0_11, List.forall_mem_cons.mpr ⟨fq_0_12, List.forall_mem_cons.mpr ⟨fq_0_13, fun _ h => absurd h List.not_mem_nil⟩⟩⟩⟩⟩⟩⟩⟩⟩⟩⟩⟩⟩⟩
theorem fq_1_0 : pm_fq 1 (14, 1, 2) := ⟨pm_in2 42 (by rfl) rfl, by decide, by decide, by decide⟩
theorem fq_1_1 : pm_fq 1 (18, 1, 3) := ⟨pm_in2 43 (by rfl) rfl, by decide, by decide, by decide⟩
theorem fq_1_2 : pm_fq 1 (22, 1, 4) := ⟨pm_in2 44 (by rfl) rfl, by decide, by decide, by decide⟩
theorem fq_1_3 : pm_fq 1 (25, 1, 5) := ⟨pm_in2 45 (by rfl) rfl, by decide, by decide, by decide⟩
theorem fq_1_4 : pm_fq 1 (28, 1, 6) := ⟨pm_in2 46 (by rfl) rfl, by decide, by decide, by decide⟩
theorem fq_1_5 : pm_fq 1 (31, 1, 7) := ⟨pm_in2 47 (by rfl) rfl, by decide, by decide, by decide⟩
theorem fq_1_6 : pm_fq 1 (34, 1, 8) := ⟨pm_in2 48 (by rfl) rfl, by decide, by decide, by decide⟩
theorem fq_1_7 : pm_fq 1 (37, 1, 9) := ⟨pm_in2 49 (by rfl) rfl, by decide, by decide, by decide⟩
theorem fq_1_8 : pm_fq 1 (40, 1, 10) := ⟨pm_in2 50 (by rfl) rfl, by decide, by decide, by decide⟩
theorem fq_1_9 : pm_fq 1 (43, 1, 11) := ⟨pm_in2 51 (by rfl) rfl, by decide, by decide, by decide⟩
theorem fq_1_10 : pm_fq 1 (46, 1, 12) := ⟨pm_in2 52 (by rfl) rfl, by decide, by decide, by decide⟩
theorem fq_1_11 : pm_fq 1 (49, 1, 13) := ⟨pm_in2 53 (by rfl) rfl, by decide, by decide, by decide⟩
theorem fq_1_12 : pm_fq 1 (52, 1, 14) := ⟨pm_in2 54 (by rfl) rfl, by decide, by decide, by decide⟩
theorem fq_1_13 : pm_fq 1 (55, 1, 15) := ⟨pm_in2 55 (by rfl) rfl, by decide, by decide, by decide⟩
theorem fq_1_14 : pm_fq 1 (58, 1, 16) := ⟨pm_in2 56 (by rfl) rfl, by decide, by decide, by decide⟩
theorem fq_1_15 : pm_fq 1 (61, 1, 17) := ⟨pm_in2 57 (by rfl) rfl, by decide, by decide, by decide⟩
theorem fq_1_16 : pm_fq 1 (65, 1, 0) := ⟨pm_in2 40 (by rfl) rfl, by decide, by decide, by decide⟩
theorem fq_1_17 : pm_fq 1 (69, 0, 0) := ⟨pm_in1 119 (by rfl) rfl, by decide, by decide, by decide⟩
theorem fq_1_18 : pm_fq 1 (75, 1, 1) := ⟨pm_in2 41 (by rfl) rfl, by decide, by decide, by decide⟩
theorem fq_1_19 : pm_fq 1 (76, 7, 2) := ⟨pm_in1 106 (by rfl) rfl, by decide, by decide, by decide⟩
theorem fq_1_20 : pm_fq 1 (126, 7, 0) := ⟨pm_in1 98 (by rfl) rfl, by decide, by decide, by decide⟩
theorem fq_1_21 : pm_fq 1 (133, 7, 1) := ⟨pm_in1 103 (by rfl) rfl, by decide, by decide, by decide⟩
theorem fq_1_22 : pm_fq 1 (136, 0, 1) := ⟨pm_in1 122 (by rfl) rfl, by decide, by decide, by decide⟩
theorem fq_1_23 : pm_fq 1 (170, 5, 0) := ⟨pm_in1 42 (by rfl) rfl, by decide, by decide, by decide⟩
theorem fq_1_24 : pm_fq 1 (204, 3, 7) := ⟨pm_in2 22 (by rfl) rfl, by decide, by decide, by decide⟩
set_option maxRecDepth 20000 in
theorem fqs_1 : ∀ q ∈ pm_fls.getD 1 [], pm_fq 1 q := List.forall_mem_cons.mpr ⟨fq_1_0, List.forall_mem_cons.mpr ⟨fq_1_1, List.forall_mem_cons.mpr ⟨fq_1_2, List.forall_mem_cons.mpr ⟨fq_1_3, List.forall_mem_cons.mpr ⟨fq_1_4, List.forall_mem_cons.mpr ⟨fq_1_5, List.forall_mem_cons.mpr ⟨fq_1_6, List.forall_mem_cons.mpr ⟨fq_1_7, List.forall_mem_cons.mpr ⟨fq_1_8, List.forall_mem_cons.mpr ⟨fq_1_9, List.forall_mem_cons.mpr ⟨fq_1_10, List.forall_mem_cons.mpr ⟨fq_1_11, List.forall_mem_cons.mpr ⟨fq_1_12, List.forall_mem_cons.mpr ⟨fq_1_13, List.forall_mem_cons.mpr ⟨fq_1_14, List.forall_mem_cons.mpr ⟨fq_1_15, List.forall_mem_cons.mpr ⟨fq_1_16, List.forall_mem_cons.mpr ⟨fq_1_17, List.forall_mem_cons.mpr ⟨fq_1_18, List.forall_mem_cons.mpr ⟨fq_1_19, List.forall_mem_cons.mpr ⟨fq_1_20, List.forall_mem_cons.mpr ⟨fq_1_21, List.forall_mem_cons.mpr ⟨fq_1_22, List.forall_mem_cons.mpr ⟨fq_1_23, List.forall_mem_cons.mpr ⟨fq_1_24, fun _ h => absurd h List.not_mem_nil⟩⟩⟩⟩⟩⟩⟩⟩⟩⟩⟩⟩⟩⟩⟩⟩⟩⟩⟩⟩⟩⟩⟩⟩⟩
theorem fq_2_0 : pm_fq 2 (11, 2, 1) := ⟨pm_in1 217 (by rfl) rfl, by decide, by decide, by decide⟩
theorem fq_2_1 : pm_fq 2 (18, 2, 2) := ⟨pm_in1 219 (by rfl) rfl, by decide, by decide, by decide⟩
theorem fq_2_2 : pm_fq 2 (22, 2, 3) := ⟨pm_in1 221 (by rfl) rfl, by decide, by decide, by decide⟩
theorem fq_2_3 : pm_fq 2 (25, 2, 4) := ⟨pm_in1 222 (by rfl) rfl, by decide, by decide, by decide⟩
theorem fq_2_4 : pm_fq 2 (28, 2, 5) := ⟨pm_in1 223 (by rfl) rfl, by decide, by decide, by decide⟩
theorem fq_2_5 : pm_fq 2 (32, 2, 6) := ⟨pm_in1 225 (by rfl) rfl, by decide, by decide, by decide⟩
theorem fq_2_6 : pm_fq 2 (35, 2, 0) := ⟨pm_in1 216 (by rfl) rfl, by decide, by decide, by decide⟩
theorem fq_2_7 : pm_fq 2 (43, 7, 2) := ⟨pm_in1 108 (by rfl) rfl, by decide, by decide, by decide⟩
theorem fq_2_8 : pm_fq 2 (83, 7, 0) := ⟨pm_in1 97 (by rfl) rfl, by decide, by decide, by decide⟩
theorem fq_2_9 : pm_fq 2 (87, 7, 1) := ⟨pm_in1 102 (by rfl) rfl, by decide, by decide, by decide⟩
theorem fq_2_10 : pm_fq 2 (90, 0, 0) := ⟨pm_in1 120 (by rfl) rfl, by decide, by decide, by decide⟩
theorem fq_2_11 : pm_fq 2 (105, 5, 0) := ⟨pm_in1 39 (by rfl) rfl, by decide, by decide, by decide⟩
set_option maxRecDepth 20000 in
theorem fqs_2 : ∀ q ∈ pm_fls.getD 2 [], pm_fq 2 q := List.forall_mem_cons.mpr ⟨fq_2_0, List.forall_mem_cons.mpr ⟨fq_2_1, List.forall_mem_cons.mpr ⟨fq_2_2, List.forall_mem_cons.mpr ⟨fq_2_3, List.forall_mem_cons.mpr ⟨fq_2_4, List.forall_mem_cons.mpr ⟨fq_2_5, List.forall_mem_cons.mpr ⟨fq_2_6, List.forall_mem_cons.mpr ⟨fq_2_7, List.forall_mem_cons.mpr ⟨fq_2_8, List.forall_mem_cons.mpr ⟨fq_2_9, List.forall_mem_cons.mpr ⟨fq_2_10, List.forall_mem_cons.mpr ⟨fq_2_11, fun _ h => absurd h List.not_mem_nil⟩⟩⟩⟩⟩⟩⟩⟩⟩⟩⟩⟩
theorem fq_3_0 : pm_fq 3 (11, 3, 0) := ⟨pm_in2 14 (by rfl) rfl, by decide, by decide, by decide⟩
theorem fq_3_1 : pm_fq 3 (15, 3, 1) := ⟨pm_in2 15 (by rfl) rfl, by decide, by decide, by decide⟩
theorem fq_3_2 : pm_fq 3 (18, 3, 2) := ⟨pm_in2 16 (by rfl) rfl, by decide, by decide, by decide⟩
theorem fq_3_3 : pm_fq 3 (21, 3, 3) := ⟨pm_in2 17 (by rfl) rfl, by decide, by decide, by decide⟩
theorem fq_3_4 : pm_fq 3 (25, 3, 4) := ⟨pm_in2 18 (by rfl) rfl, by decide, by decide, by decide⟩
theorem fq_3_5 : pm_fq 3 (28, 3, 5) := ⟨pm_in2 19 (by rfl) rfl, by decide, by decide, by decide⟩
theorem fq_3_6 : pm_fq 3 (31, 3, 6) := ⟨pm_in2 20 (by rfl) rfl, by decide, by decide, by decide⟩
theorem fq_3_7 : pm_fq 3 (34, 3, 7) := ⟨pm_in2 21 (by rfl) rfl, by decide, by decide, by decide⟩
set_option maxRecDepth 20000 in
theorem fqs_3 : ∀ q ∈ pm_fls.getD 3 [], pm_fq 3 q := List.forall_mem_cons.mpr ⟨fq_3_0, List.forall_mem_cons.mpr ⟨fq_3_1, List.forall_mem_cons.mpr ⟨fq_3_2, List.forall_mem_cons.mpr ⟨fq_3_3, List.forall_mem_cons.mpr ⟨fq_3_4, List.forall_mem_cons.mpr ⟨fq_3_5, List.forall_mem_cons.mpr ⟨fq_3_6, List.forall_mem_cons.mpr ⟨fq_3_7, fun _ h => absurd h List.not_mem_nil⟩⟩⟩⟩⟩⟩⟩⟩
theorem fq_4_0 : pm_fq 4 (9, 4, 0) := ⟨pm_in2 103 (by rfl) rfl, by decide, by decide, by decide⟩
theorem fq_4_1 : pm_fq 4 (15, 4, 1) := ⟨pm_in2 105 (by rfl) rfl, by decide, by decide, by decide⟩
theorem fq_4_2 : pm_fq 4 (18, 4, 2) := ⟨pm_in2 107 (by rfl) rfl, by decide, by decide, by decide⟩
theorem fq_4_3 : pm_fq 4 (21, 4, 3) := ⟨pm_in2 109 (by rfl) rfl, by decide, by decide, by decide⟩
theorem fq_4_4 : pm_fq 4 (26, 4, 4) := ⟨pm_in2 111 (by rfl) rfl, by decide, by decide, by decide⟩
theorem fq_4_5 : pm_fq 4 (30, 4, 5) := ⟨pm_in2 113 (by rfl) rfl, by decide, by decide, by decide⟩
theorem fq_4_6 : pm_fq 4 (34, 4, 6) := ⟨pm_in2 114 (by rfl) rfl, by decide, by decide, by decide⟩
theorem fq_4_7 : pm_fq 4 (45, 6, 0) := ⟨pm_in1 57 (by rfl) rfl, by decide, by decide, by decide⟩
theorem fq_4_8 : pm_fq 4 (50, 6, 1) := ⟨pm_in1 60 (by rfl) rfl, by decide, by decide, by decide⟩
theorem fq_4_9 : pm_fq 4 (53, 6, 2) := ⟨pm_in1 63 (by rfl) rfl, by decide, by decide, by decide⟩
set_option maxRecDepth 20000 in
theorem fqs_4 : ∀ q ∈ pm_fls.getD 4 [], pm_fq 4 q := List.forall_mem_cons.mpr ⟨fq_4_0, List.forall_mem_cons.mpr ⟨fq_4_1, List.forall_mem_cons.mpr ⟨fq_4_2, List.forall_mem_cons.mpr ⟨fq_4_3, List.forall_mem_cons.mpr ⟨fq_4_4, List.forall_mem_cons.mpr ⟨fq_4_5, List.forall_mem_cons.mpr ⟨fq_4_6, List.forall_mem_cons.mpr ⟨fq_4_7, List.forall_mem_cons.mpr ⟨fq_4_8, List.forall_mem_cons.mpr ⟨fq_4_9, fun _ h => absurd h List.not_mem_nil⟩⟩⟩⟩⟩⟩⟩⟩⟩⟩
theorem fq_5_0 : pm_fq 5 (7, 5, 0) := ⟨pm_in1 38 (by rfl) rfl, by decide, by decide, by decide⟩
theorem fq_5_1 : pm_fq 5 (13, 5, 1) := ⟨pm_in1 43 (by rfl) rfl, by decide, by decide, by decide⟩
set_option maxRecDepth 20000 in
theorem fqs_5 : ∀ q ∈ pm_fls.getD 5 [], pm_fq 5 q := List.forall_mem_cons.mpr ⟨fq_5_0, List.forall_mem_cons.mpr ⟨fq_5_1, fun _ h => absurd h List.not_mem_nil⟩⟩
theorem fq_6_0 : pm_fq 6 (11, 6, 0) := ⟨pm_in1 56 (by rfl) rfl, by decide, by decide, by decide⟩
theorem fq_6_1 : pm_fq 6 (15, 6, 1) := ⟨pm_in1 59 (by rfl) rfl, by decide, by decide, by decide⟩
theorem fq_6_2 : pm_fq 6 (18, 6, 2) := ⟨pm_in1 62 (by rfl) rfl, by decide, by decide, by decide⟩
theorem fq_6_3 : pm_fq 6 (21, 6, 3) := ⟨pm_in1 65 (by rfl) rfl, by decide, by decide, by decide⟩
theorem fq_6_4 : pm_fq 6 (24, 6, 4) := ⟨pm_in1 67 (by rfl) rfl, by decide, by decide, by decide⟩
set_option maxRecDepth 20000 in
theorem fqs_6 : ∀ q ∈ pm_fls.getD 6 [], pm_fq 6 q := List.forall_mem_cons.mpr ⟨fq_6_0, List.forall_mem_cons.mpr ⟨fq_6_1, List.forall_mem_cons.mpr ⟨fq_6_2, List.forall_mem_cons.mpr ⟨fq_6_3, List.forall_mem_cons.mpr ⟨fq_6_4, fun _ h => absurd h List.not_mem_nil⟩⟩⟩⟩⟩
theorem fq_7_0 : pm_fq 7 (9, 7, 0) := ⟨pm_in1 95 (by rfl) rfl, by decide, by decide, by decide⟩
theorem fq_7_1 : pm_fq 7 (15, 7, 1) := ⟨pm_in1 100 (by rfl) rfl, by decide, by decide, by decide⟩
theorem fq_7_2 : pm_fq 7 (18, 7, 2) := ⟨pm_in1 105 (by rfl) rfl, by decide, by decide, by decide⟩
set_option maxRecDepth 20000 in
theorem fqs_7 : ∀ q ∈ pm_fls.getD 7 [], pm_fq 7 q := List.forall_mem_cons.mpr ⟨fq_7_0, List.forall_mem_cons.mpr ⟨fq_7_1, List.forall_mem_cons.mpr ⟨fq_7_2, fun _ h => absurd h List.not_mem_nil⟩⟩⟩
theorem fq_8_0 : pm_fq 8 (12, 8, 0) := ⟨pm_in1 162 (by rfl) rfl, by decide, by decide, by decide⟩
theorem fq_8_1 : pm_fq 8 (21, 8, 1) := ⟨pm_in1 164 (by rfl) rfl, by decide, by decide, by decide⟩
theorem fq_8_2 : pm_fq 8 (27, 8, 2) := ⟨pm_in1 166 (by rfl) rfl, by decide, by decide, by decide⟩
theorem fq_8_3 : pm_fq 8 (31, 8, 3) := ⟨pm_in1 168 (by rfl) rfl, by decide, by decide, by decide⟩
theorem fq_8_4 : pm_fq 8 (35, 8, 4) := ⟨pm_in1 170 (by rfl) rfl, by decide, by decide, by decide⟩
theorem fq_8_5 : pm_fq 8 (38, 8, 5) := ⟨pm_in1 172 (by rfl) rfl, by decide, by decide, by decide⟩
theorem fq_8_6 : pm_fq 8 (41, 8, 6) := ⟨pm_in1 174 (by rfl) rfl, by decide, by decide, by decide⟩
theorem fq_8_7 : pm_fq 8 (45, 8, 7) := ⟨pm_in1 175 (by rfl) rfl, by decide, by decide, by decide⟩
theorem fq_8_8 : pm_fq 8 (48, 8, 8) := ⟨pm_in1 176 (by rfl) rfl, by decide, by decide, by decide⟩
theorem fq_8_9 : pm_fq 8 (51, 8, 9) := ⟨pm_in1 177 (by rfl) rfl, by decide, by decide, by decide⟩
theorem fq_8_10 : pm_fq 8 (55, 8, 10) := ⟨pm_in1 178 (by rfl) rfl, by decide, by decide, by decide⟩
theorem fq_8_11 : pm_fq 8 (58, 8, 11) := ⟨pm_in1 179 (by rfl) rfl, by decide, by decide, by decide⟩
theorem fq_8_12 : pm_fq 8 (61, 8, 12) := ⟨pm_in1 180 (by rfl) rfl, by decide, by decide, by decide⟩
theorem fq_8_13 : pm_fq 8 (132, 7, 2) := ⟨pm_in1 109 (by rfl) rfl, by decide, by decide, by decide⟩
theorem fq_8_14 : pm_fq 8 (143, 6, 4) := ⟨pm_in1 69 (by rfl) rfl, by decide, by decide, by decide⟩
set_option maxRecDepth 20000 in
theorem fqs_8 : ∀ q ∈ pm_fls.getD 8 [], pm_fq 8 q := List.forall_mem_cons.mpr ⟨fq_8_0, List.forall_mem_cons.mpr ⟨fq_8_1, List.forall_mem_cons.mpr ⟨fq_8_2, List.forall_mem_cons.mpr ⟨fq_8_3, List.forall_mem_cons.mpr ⟨fq_8_4, List.forall_mem_cons.mpr ⟨fq_8_5, List.forall_mem_cons.mpr ⟨fq_8_6, List.forall_mem_cons.mpr ⟨fq_8_7, List.forall_mem_cons.mpr ⟨fq_8_8, List.forall_mem_cons.mpr ⟨fq_8_9, List.forall_mem_cons.mpr ⟨fq_8_10, List.forall_mem_cons.mpr ⟨fq_8_11, List.forall_mem_cons.mpr ⟨fq_8_12, List.forall_mem_cons.mpr ⟨fq_8_13, List.forall_mem_cons.mpr ⟨fq_8_14, fun _ h => absurd h List.not_mem_nil⟩⟩⟩⟩⟩⟩⟩⟩⟩⟩⟩⟩⟩⟩⟩
theorem fq_9_0 : pm_fq 9 (9, 9, 0) := ⟨pm_in2 133 (by rfl) rfl, by decide, by decide, by decide⟩
theorem fq_9_1 : pm_fq 9 (13, 9, 1) := ⟨pm_in2 134 (by rfl) rfl, by decide, by decide, by decide⟩
theorem fq_9_2 : pm_fq 9 (17, 9, 2) := ⟨pm_in2 135 (by rfl) rfl, by decide, by decide, by decide⟩
theorem fq_9_3 : pm_fq 9 (20, 9, 3) := ⟨pm_in2 136 (by rfl) rfl, by decide, by decide, by decide⟩
theorem fq_9_4 : pm_fq 9 (23, 9, 4) := ⟨pm_in2 137 (by rfl) rfl, by decide, by decide, by decide⟩
theorem fq_9_5 : pm_fq 9 (26, 9, 5) := ⟨pm_in2 138 (by rfl) rfl, by decide, by decide, by decide⟩
theorem fq_9_6 : pm_fq 9 (33, 9, 6) := ⟨pm_in2 139 (by rfl) rfl, by decide, by decide, by decide⟩
theorem fq_9_7 : pm_fq 9 (40, 9, 7) := ⟨pm_in2 140 (by rfl) rfl, by decide, by decide, by decide⟩
theorem fq_9_8 : pm_fq 9 (49, 9, 8) := ⟨pm_in2 141 (by rfl) rfl, by decide, by decide, by decide⟩
theorem fq_9_9 : pm_fq 9 (56, 9, 9) := ⟨pm_in2 142 (by rfl) rfl, by decide, by decide, by decide⟩
theorem fq_9_10 : pm_fq 9 (65, 9, 10) := ⟨pm_in2 143 (by rfl) rfl, by decide, by decide, by decide⟩
theorem fq_9_11 : pm_fq 9 (72, 9, 11) := ⟨pm_in2 144 (by rfl) rfl, by decide, by decide, by decide⟩
theorem fq_9_12 : pm_fq 9 (79, 9, 12) := ⟨pm_in2 145 (by rfl) rfl, by decide, by decide, by decide⟩
theorem fq_9_13 : pm_fq 9 (85, 9, 13) := ⟨pm_in2 146 (by rfl) rfl, by decide, by decide, by decide⟩
theorem fq_9_14 : pm_fq 9 (90, 9, 14) := ⟨pm_in2 147 (by rfl) rfl, by decide, by decide, by decide⟩
theorem fq_9_15 : pm_fq 9 (106, 8, 4) := ⟨pm_in1 171 (by rfl) rfl, by decide, by decide, by decide⟩
theorem fq_9_16 : pm_fq 9 (109, 8, 5) := ⟨pm_in1 173 (by rfl) rfl, by decide, by decide, by decide⟩
theorem fq_9_17 : pm_fq 9 (115, 8, 3) := ⟨pm_in1 169 (by rfl) rfl, by decide, by decide, by decide⟩
theorem fq_9_18 : pm_fq 9 (121, 5, 0) := ⟨pm_in1 40 (by rfl) rfl, by decide, by decide, by decide⟩
theorem fq_9_19 : pm_fq 9 (124, 6, 0) := ⟨pm_in1 58 (by rfl) rfl, by decide, by decide, by decide⟩
theorem fq_9_20 : pm_fq 9 (127, 6, 1) := ⟨pm_in1 61 (by rfl) rfl, by decide, by decide, by decide⟩
theorem fq_9_21 : pm_fq 9 (130, 6, 2) := ⟨pm_in1 64 (by rfl) rfl, by decide, by decide, by decide⟩
theorem fq_9_22 : pm_fq 9 (133, 6, 3) := ⟨pm_in1 66 (by rfl) rfl, by decide, by decide, by decide⟩
theorem fq_9_23 : pm_fq 9 (144, 7, 2) := ⟨pm_in1 110 (by rfl) rfl, by decide, by decide, by decide⟩
theorem fq_9_24 : pm_fq 9 (147, 7, 0) := ⟨pm_in1 99 (by rfl) rfl, by decide, by decide, by decide⟩
theorem fq_9_25 : pm_fq 9 (150, 7, 1) := ⟨pm_in1 104 (by rfl) rfl, by decide, by decide, by decide⟩
theorem fq_9_26 : pm_fq 9 (208, 2, 5) := ⟨pm_in1 224 (by rfl) rfl, by decide, by decide, by decide⟩
theorem fq_9_27 : pm_fq 9 (211, 2, 2) := ⟨pm_in1 220 (by rfl) rfl, by decide, by decide, by decide⟩
theorem fq_9_28 : pm_fq 9 (217, 2, 6) := ⟨pm_in1 226 (by rfl) rfl, by decide, by decide, by decide⟩
theorem fq_9_29 : pm_fq 9 (268, 2, 1) := ⟨pm_in1 218 (by rfl) rfl, by decide, by decide, by decide⟩
theorem fq_9_30 : pm_fq 9 (301, 4, 6) := ⟨pm_in2 115 (by rfl) rfl, by decide, by decide, by decide⟩
theorem fq_9_31 : pm_fq 9 (305, 4, 0) := ⟨pm_in2 104 (by rfl) rfl, by decide, by decide, by decide⟩
theorem fq_9_32 : pm_fq 9 (308, 4, 4) := ⟨pm_in2 112 (by rfl) rfl, by decide, by decide, by decide⟩
theorem fq_9_33 : pm_fq 9 (311, 4, 1) := ⟨pm_in2 106 (by rfl) rfl, by decide, by decide, by decide⟩
theorem fq_9_34 : pm_fq 9 (314, 4, 2) := ⟨pm_in2 108 (by rfl) rfl, by decide, by decide, by decide⟩
theorem fq_9_35 : pm_fq 9 (317, 4, 3) := ⟨pm_in2 110 (by rfl) rfl, by decide, by decide, by decide⟩
theorem fq_9_36 : pm_fq 9 (337, 8, 0) := ⟨pm_in1 163 (by rfl) rfl, by decide, by decide, by decide⟩
theorem fq_9_37 : pm_fq 9 (341, 8, 1) := ⟨pm_in1 165 (by rfl) rfl, by decide, by decide, by decide⟩
theorem fq_9_38 : pm_fq 9 (344, 8, 2) := ⟨pm_in1 167 (by rfl) rfl, by decide, by decide, by decide⟩
set_option maxRecDepth 20000 in
theorem fqs_9 : ∀ q ∈ pm_fls.getD 9 [], pm_fq 9 q := List.forall_mem_cons.mpr ⟨fq_9_0, List.forall_mem_cons.mpr ⟨fq_9_1, List.forall_mem_cons.mpr ⟨fq_9_2, List.forall_mem_cons.mpr ⟨fq_9_3, List.forall_mem_cons.mpr ⟨fq_9_4, List.forall_mem_cons.mpr ⟨fq_9_5, List.forall_mem_cons.mpr ⟨fq_9_6, List.forall_mem_cons.mpr ⟨fq_9_7, List.forall_mem_cons.mpr ⟨fq_9_8, List.forall_mem_cons.mpr ⟨fq_9_9, List.forall_mem_cons.mpr ⟨fq_9_10, List.forall_mem_cons.mpr ⟨fq_9_11, List.forall_mem_cons.mpr ⟨fq_9_12, List.forall_mem_cons.mpr ⟨fq_9_13, List.forall_mem_cons.mpr ⟨fq_9_14, List.forall_mem_cons.mpr ⟨fq_9_15, List.forall_mem_cons.mpr ⟨fq_9_16, List.forall_mem_cons.mpr ⟨fq_9_17, List.forall_mem_cons.mpr ⟨fq_9_18, List.forall_mem_cons.mpr ⟨fq_9_19, List.forall_mem_cons.mpr ⟨fq_9_20, List.forall_mem_cons.mpr ⟨fq_9_21, List.forall_mem_cons.mpr ⟨fq_9_22, List.forall_mem_cons.mpr ⟨fq_9_23, List.forall_mem_cons.mpr ⟨fq_9_24, List.forall_mem_cons.mpr ⟨fq_9_25, List.forall_mem_cons.mpr ⟨fq_9_26, List.forall_mem_cons.mpr ⟨fq_9_27, List.forall_mem_cons.mpr ⟨fq_9_28, List.forall_mem_cons.mpr ⟨fq_9_29, List.forall_mem_cons.mpr ⟨fq_9_30, List.forall_mem_cons.mpr ⟨fq_9_31, List.forall_mem_cons.mpr ⟨fq_9_32, List.forall_mem_cons.mpr ⟨fq_9_33, List.forall_mem_cons.mpr ⟨fq_9_34, List.forall_mem_cons.mpr ⟨fq_9_35, List.forall_mem_cons.mpr ⟨fq_9_36, List.forall_mem_cons.mpr ⟨fq_9_37, List.forall_mem_cons.mpr ⟨fq_9_38, fun _ h => absurd h List.not_mem_nil⟩⟩⟩⟩⟩⟩⟩⟩⟩⟩⟩⟩⟩⟩⟩⟩⟩⟩⟩⟩⟩⟩⟩⟩⟩⟩⟩⟩⟩⟩⟩⟩⟩⟩⟩⟩⟩⟩⟩
theorem fq_10_0 : pm_fq 10 (9, 10, 2) := ⟨pm_in6 30 (by rfl) rfl, by decide, by decide, by decide⟩
theorem fq_10_1 : pm_fq 10 (14, 10, 3) := ⟨pm_in6 31 (by rfl) rfl, by decide, by decide, by decide⟩
theorem fq_10_2 : pm_fq 10 (18, 10, 4) := ⟨pm_in6 32 (by rfl) rfl, by decide, by decide, by decide⟩
theorem fq_10_3 : pm_fq 10 (21, 10, 15) := ⟨pm_in6 43 (by rfl) rfl, by decide, by decide, by decide⟩
theorem fq_10_4 : pm_fq 10 (25, 10, 24) := ⟨pm_in6 52 (by rfl) rfl, by decide, by decide, by decide⟩
theorem fq_10_5 : pm_fq 10 (28, 10, 26) := ⟨pm_in6 54 (by rfl) rfl, by decide, by decide, by decide⟩
theorem fq_10_6 : pm_fq 10 (31, 10, 28) := ⟨pm_in6 56 (by rfl) rfl, by decide, by decide, by decide⟩
theorem fq_10_7 : pm_fq 10 (34, 10, 30) := ⟨pm_in6 58 (by rfl) rfl, by decide, by decide, by decide⟩
theorem fq_10_8 : pm_fq 10 (37, 10, 31) := ⟨pm_in6 59 (by rfl) rfl, by decide, by decide, by decide⟩
theorem fq_10_9 : pm_fq 10 (40, 10, 32) := ⟨pm_in6 60 (by rfl) rfl, by decide, by decide, by decide⟩
theorem fq_10_10 : pm_fq 10 (43, 10, 33) := ⟨pm_in6 61 (by rfl) rfl, by decide, by decide, by decide⟩
theorem fq_10_11 : pm_fq 10 (46, 10, 34) := ⟨pm_in6 62 (by rfl) rfl, by decide, by decide, by decide⟩
theorem fq_10_12 : pm_fq 10 (49, 10, 35) := ⟨pm_in6 63 (by rfl) rfl, by decide, by decide, by decide⟩
theorem fq_10_13 : pm_fq 10 (52, 10, 40) := ⟨pm_in6 68 (by rfl) rfl, by decide, by decide, by decide⟩
theorem fq_10_14 : pm_fq 10 (55, 10, 41) := ⟨pm_in6 69 (by rfl) rfl, by decide, by decide, by decide⟩
theorem fq_10_15 : pm_fq 10 (58, 10, 42) := ⟨pm_in6 70 (by rfl) rfl, by decide, by decide, by decide⟩
theorem fq_10_16 : pm_fq 10 (61, 10, 43) := ⟨pm_in6 71 (by rfl) rfl, by decide, by decide, by decide⟩
theorem fq_10_17 : pm_fq 10 (64, 10, 44) := ⟨pm_in6 72 (by rfl) rfl, by decide, by decide, by decide⟩
theorem fq_10_18 : pm_fq 10 (68, 10, 46) := ⟨pm_in6 74 (by rfl) rfl, by decide, by decide, by decide⟩
theorem fq_10_19 : pm_fq 10 (71, 10, 47) := ⟨pm_in6 75 (by rfl) rfl, by decide, by decide, by decide⟩
theorem fq_10_20 : pm_fq 10 (74, 10, 48) := ⟨pm_in6 76 (by rfl) rfl, by decide, by decide, by decide⟩
theorem fq_10_21 : pm_fq 10 (77, 10, 49) := ⟨pm_in6 77 (by rfl) rfl, by decide, by decide, by decide⟩
theorem fq_10_22 : pm_fq 10 (80, 10, 50) := ⟨pm_in6 78 (by rfl) rfl, by decide, by decide, by decide⟩
theorem fq_10_23 : pm_fq 10 (83, 10, 51) := ⟨pm_in6 79 (by rfl) rfl, by decide, by decide, by decide⟩
theorem fq_10_24 : pm_fq 10 (86, 10, 52) := ⟨pm_in6 80 (by rfl) rfl, by decide, by decide, by decide⟩
theorem fq_10_25 : pm_fq 10 (89, 10, 0) := ⟨pm_in6 28 (by rfl) rfl, by decide, by decide, by decide⟩
theorem fq_10_26 : pm_fq 10 (92, 10, 1) := ⟨pm_in6 29 (by rfl) rfl, by decide, by decide, by decide⟩
theorem fq_10_27 : pm_fq 10 (99, 10, 17) := ⟨pm_in6 45 (by rfl) rfl, by decide, by decide, by decide⟩
theorem fq_10_28 : pm_fq 10 (102, 10, 22) := ⟨pm_in6 50 (by rfl) rfl, by decide, by decide, by decide⟩
theorem fq_10_29 : pm_fq 10 (105, 10, 18) := ⟨pm_in6 46 (by rfl) rfl, by decide, by decide, by decide⟩
theorem fq_10_30 : pm_fq 10 (112, 10, 20) := ⟨pm_in6 48 (by rfl) rfl, by decide, by decide, by decide⟩
theorem fq_10_31 : pm_fq 10 (115, 10, 19) := ⟨pm_in6 47 (by rfl) rfl, by decide, by decide, by decide⟩
theorem fq_10_32 : pm_fq 10 (128, 10, 23) := ⟨pm_in6 51 (by rfl) rfl, by decide, by decide, by decide⟩
theorem fq_10_33 : pm_fq 10 (132, 10, 21) := ⟨pm_in6 49 (by rfl) rfl, by decide, by decide, by decide⟩
theorem fq_10_34 : pm_fq 10 (162, 10, 9) := ⟨pm_in6 37 (by rfl) rfl, by decide, by decide, by decide⟩
theorem fq_10_35 : pm_fq 10 (165, 10, 13) := ⟨pm_in6 41 (by rfl) rfl, by decide, by decide, by decide⟩
theorem fq_10_36 : pm_fq 10 (199, 10, 10) := ⟨pm_in6 38 (by rfl) rfl, by decide, by decide, by decide⟩
theorem fq_10_37 : pm_fq 10 (205, 10, 11) := ⟨pm_in6 39 (by rfl) rfl, by decide, by decide, by decide⟩
theorem fq_10_38 : pm_fq 10 (208, 10, 12) := ⟨pm_in6 40 (by rfl) rfl, by decide, by decide, by decide⟩
theorem fq_10_39 : pm_fq 10 (218, 10, 16) := ⟨pm_in6 44 (by rfl) rfl, by decide, by decide, by decide⟩
theorem fq_10_40 : pm_fq 10 (227, 10, 14) := ⟨pm_in6 42 (by rfl) rfl, by decide, by decide, by decide⟩
theorem fq_10_41 : pm_fq 10 (231, 10, 5) := ⟨pm_in6 33 (by rfl) rfl, by decide, by decide, by decide⟩
theorem fq_10_42 : pm_fq 10 (233, 10, 6) := ⟨pm_in6 34 (by rfl) rfl, by decide, by decide, by decide⟩
theorem fq_10_43 : pm_fq 10 (236, 10, 7) := ⟨pm_in6 35 (by rfl) rfl, by decide, by decide, by decide⟩
theorem fq_10_44 : pm_fq 10 (239, 10, 8) := ⟨pm_in6 36 (by rfl) rfl, by decide, by decide, by decide⟩
theorem fq_10_45 : pm_fq 10 (242, 10, 45) := ⟨pm_in6 73 (by rfl) rfl, by decide, by decide, by decide⟩
theorem fq_10_46 : pm_fq 10 (251, 10, 25) := ⟨pm_in6 53 (by rfl) rfl, by decide, by decide, by decide⟩
theorem fq_10_47 : pm_fq 10 (292, 10, 27) := ⟨pm_in6 55 (by rfl) rfl, by decide, by decide, by decide⟩
theorem fq_10_48 : pm_fq 10 (315, 10, 29) := ⟨pm_in6 57 (by rfl) rfl, by decide, by decide, by decide⟩
theorem fq_10_49 : pm_fq 10 (325, 10, 36) := ⟨pm_in6 64 (by rfl) rfl, by decide, by decide, by decide⟩
theorem fq_10_50 : pm_fq 10 (328, 10, 37) := ⟨pm_in6 65 (by rfl) rfl, by decide, by decide, by decide⟩
theorem fq_10_51 : pm_fq 10 (331, 10, 38) := ⟨pm_in6 66 (by rfl) rfl, by decide, by decide, by decide⟩
theorem fq_10_52 : pm_fq 10 (340, 10, 39) := ⟨pm_in6 67 (by rfl) rfl, by decide, by decide, by decide⟩
set_option maxRecDepth 20000 in
theorem fqs_10 : ∀ q ∈ pm_fls.getD 10 [], pm_fq 10 q := List.forall_mem_cons.mpr ⟨fq_10_0, List.forall_mem_cons.mpr ⟨fq_10_1, List.forall_mem_cons.mpr ⟨fq_10_2, List.forall_mem_cons.mpr ⟨fq_10_3, List.forall_mem_cons.mpr ⟨fq_10_4, List.forall_mem_cons.mpr ⟨fq_10_5, List.forall_mem_cons.mpr ⟨fq_10_6, List.forall_mem_cons.mpr ⟨fq_10_7, List.forall_mem_cons.mpr ⟨fq_10_8, List.forall_mem_cons.mpr ⟨fq_10_9, List.forall_mem_cons.mpr ⟨fq_10_10, List.forall_mem_cons.mpr ⟨fq_10_11, List.forall_mem_cons.mpr ⟨fq_10_12, List.forall_mem_cons.mpr ⟨fq_10_13, List.forall_mem_cons.mpr ⟨fq_10_14, List.forall_mem_cons.mpr ⟨fq_10_15, List.forall_mem_cons.mpr ⟨fq_10_16, List.forall_mem_cons.mpr ⟨fq_10_17, List.forall_mem_cons.mpr ⟨fq_10_18, List.forall_mem_cons.mpr ⟨fq_10_19, List.forall_mem_cons.mpr ⟨fq_10_20, List.forall_mem_cons.mpr ⟨fq_10_21, List.forall_mem_cons.mpr ⟨fq_10_22, List.forall_mem_cons.mpr ⟨fq_10_23, List.forall_mem_cons.mpr ⟨fq_10_24, List.forall_mem_cons.mpr ⟨fq_10_25, List.forall_mem_cons.mpr ⟨fq_10_26, List.forall_mem_cons.mpr ⟨fq_10_27, List.forall_mem_cons.mpr ⟨fq_10_28, List.forall_mem_cons.mpr ⟨fq_10_29, List.forall_mem_cons.mpr ⟨fq_10_30, List.forall_mem_cons.mpr ⟨fq_10_31, List.forall_mem_cons.mpr ⟨fq_10_32, List.forall_mem_cons.mpr ⟨fq_10_33, List.forall_mem_cons.mpr ⟨fq_10_34, List.forall_mem_cons.mpr ⟨fq_10_35, List.forall_mem_cons.mpr ⟨fq_10_36, List.forall_mem_cons.mpr ⟨fq_10_37, List.forall_mem_cons.mpr ⟨fq_10_38, List.forall_mem_cons.mpr ⟨fq_10_39, List.forall_mem_cons.mpr ⟨fq_10_40, List.forall_mem_cons.mpr ⟨fq_10_41, List.forall_mem_cons.mpr ⟨fq_10_42, List.forall_mem_cons.mpr ⟨fq_10_43, List.forall_mem_cons.mpr ⟨fq_10_44, List.forall_mem_cons.mpr ⟨fq_10_45, List.forall_mem_cons.mpr ⟨fq_10_46, List.forall_mem_cons.mpr ⟨fq_10_47, List.forall_mem_cons.mpr ⟨fq_10_48, List.forall_mem_cons.mpr ⟨fq_10_49, List.forall_mem_cons.mpr ⟨fq_10_50, List.forall_mem_cons.mpr ⟨fq_10_51, List.forall_mem_cons.mpr ⟨fq_10_52, fun _ h => absurd h List.not_mem_nil⟩⟩⟩⟩⟩⟩⟩⟩⟩⟩⟩⟩⟩⟩⟩⟩⟩⟩⟩⟩⟩⟩⟩⟩⟩⟩⟩⟩⟩⟩⟩⟩⟩⟩⟩⟩⟩⟩⟩⟩⟩⟩⟩⟩⟩⟩⟩⟩⟩⟩⟩⟩⟩
set_option maxRecDepth 20000 in
theorem fqs_11 : ∀ q ∈ pm_fls.getD 11 [], pm_fq 11 q := fun _ h => absurd h List.not_mem_nil
set_option maxRecDepth 20000 in
theorem fqs_12 : ∀ q ∈ pm_fls.getD 12 [], pm_fq 12 q := fun _ h => absurd h List.not_mem_nil
set_option maxRecDepth 20000 in
theorem fqs_13 : ∀ q ∈ pm_fls.getD 13 [], pm_fq 13 q := fun _ h => absurd h List.not_mem_nil
set_option maxRecDepth 20000 in
theorem cqs_0 : ∀ q ∈ pm_cls.getD 0 [], pm_cq 0 q := List.forall_mem_cons.mpr ⟨⟨pm_in1 87 (by rfl) rfl, by decide⟩, List.forall_mem_cons.mpr ⟨⟨pm_in1 89 (by rfl) rfl, by decide⟩, fun _ h => absurd h List.not_mem_nil⟩⟩
set_option maxRecDepth 20000 in
theorem cqs_1 : ∀ q ∈ pm_cls.getD 1 [], pm_cq 1 q := List.forall_mem_cons.mpr ⟨⟨pm_in2 8 (by rfl) rfl, by decide⟩, fun _ h => absurd h List.not_mem_nil⟩
set_option maxRecDepth 20000 in
theorem cqs_2 : ∀ q ∈ pm_cls.getD 2 [], pm_cq 2 q := List.forall_mem_cons.mpr ⟨⟨pm_in1 214 (by rfl) rfl, by decide⟩, fun _ h => absurd h List.not_mem_nil⟩
set_option maxRecDepth 20000 in
theorem cqs_3 : ∀ q ∈ pm_cls.getD 3 [], pm_cq 3 q := fun _ h => absurd h List.not_mem_nil
set_option maxRecDepth 20000 in
theorem cqs_4 : ∀ q ∈ pm_cls.getD 4 [], pm_cq 4 q := List.forall_mem_cons.mpr ⟨⟨pm_in2 101 (by rfl) rfl, by decide⟩, fun _ h => absurd h List.not_mem_nil⟩
set_option maxRecDepth 20000 in
theorem cqs_5 : ∀ q ∈ pm_cls.getD 5 [], pm_cq 5 q := fun _ h => absurd h List.not_mem_nil
set_option maxRecDepth 20000 in
theorem cqs_6 : ∀ q ∈ pm_cls.getD 6 [], pm_cq 6 q := fun _ h => absurd h List.not_mem_nil
set_option maxRecDepth 20000 in
theorem cqs_7 : ∀ q ∈ pm_cls.getD 7 [], pm_cq 7 q := fun _ h => absurd h List.not_mem_nil
set_option maxRecDepth 20000 in
theorem cqs_8 : ∀ q ∈ pm_cls.getD 8 [], pm_cq 8 q := List.forall_mem_cons.mpr ⟨⟨pm_in1 155 (by rfl) rfl, by decide⟩, List.forall_mem_cons.mpr ⟨⟨pm_in1 157 (by rfl) rfl, by decide⟩, List.forall_mem_cons.mpr ⟨⟨pm_in1 159 (by rfl) rfl, by decide⟩, fun _ h => absurd h List.not_mem_nil⟩⟩⟩
set_option maxRecDepth 20000 in
theorem cqs_9 : ∀ q ∈ pm_cls.getD 9 [], pm_cq 9 q := List.forall_mem_cons.mpr ⟨⟨pm_in1 32 (by rfl) rfl, by decide⟩, List.forall_mem_cons.mpr ⟨⟨pm_in1 50 (by rfl) rfl, by decide⟩, List.forall_mem_cons.mpr ⟨⟨pm_in1 81 (by rfl) rfl, by decide⟩, List.forall_mem_cons.mpr ⟨⟨pm_in1 149 (by rfl) rfl, by decide⟩, List.forall_mem_cons.mpr ⟨⟨pm_in1 208 (by rfl) rfl, by decide⟩, List.forall_mem_cons.mpr ⟨⟨pm_in2 2 (by rfl) rfl, by decide⟩, List.forall_mem_cons.mpr ⟨⟨pm_in2 95 (by rfl) rfl, by decide⟩, List.forall_mem_cons.mpr ⟨⟨pm_in2 131 (by rfl) rfl, by decide⟩, fun _ h => absurd h List.not_mem_nil⟩⟩⟩⟩⟩⟩⟩⟩
set_option maxRecDepth 20000 in
theorem cqs_10 : ∀ q ∈ pm_cls.getD 10 [], pm_cq 10 q := fun _ h => absurd h List.not_mem_nil
set_option maxRecDepth 20000 in
theorem cqs_11 : ∀ q ∈ pm_cls.getD 11 [], pm_cq 11 q := List.forall_mem_cons.mpr ⟨⟨pm_in1 24 (by rfl) rfl, by decide⟩, List.forall_mem_cons.mpr ⟨⟨pm_in6 20 (by rfl) rfl, by decide⟩, fun _ h => absurd h List.not_mem_nil⟩⟩
set_option maxRecDepth 20000 in
theorem cqs_12 : ∀ q ∈ pm_cls.getD 12 [], pm_cq 12 q := fun _ h => absurd h List.not_mem_nil
set_option maxRecDepth 20000 in
theorem cqs_13 : ∀ q ∈ pm_cls.getD 13 [], pm_cq 13 q := fun _ h => absurd h List.not_mem_nil
set_option maxRecDepth 20000 in
theorem aqs_0 : ∀ q ∈ pm_als.getD 0 [], pm_aq 0 q := fun _ h => absurd h List.not_mem_nil
set_option maxRecDepth 20000 in
theorem aqs_1 : ∀ q ∈ pm_als.getD 1 [], pm_aq 1 q := fun _ h => absurd h List.not_mem_nil
set_option maxRecDepth 20000 in
theorem aqs_2 : ∀ q ∈ pm_als.getD 2 [], pm_aq 2 q := List.forall_mem_cons.mpr ⟨(pm_in1 214 (by rfl) rfl), fun _ h => absurd h List.not_mem_nil⟩
set_option maxRecDepth 20000 in
theorem aqs_3 : ∀ q ∈ pm_als.getD 3 [], pm_aq 3 q := fun _ h => absurd h List.not_mem_nil
set_option maxRecDepth 20000 in
theorem aqs_4 : ∀ q ∈ pm_als.getD 4 [], pm_aq 4 q := List.forall_mem_cons.mpr ⟨(pm_in2 101 (by rfl) rfl), fun _ h => absurd h List.not_mem_nil⟩
set_option maxRecDepth 20000 in
theorem aqs_5 : ∀ q ∈ pm_als.getD 5 [], pm_aq 5 q := fun _ h => absurd h List.not_mem_nil
set_option maxRecDepth 20000 in
theorem aqs_6 : ∀ q ∈ pm_als.getD 6 [], pm_aq 6 q := fun _ h => absurd h List.not_mem_nil
set_option maxRecDepth 20000 in
theorem aqs_7 : ∀ q ∈ pm_als.getD 7 [], pm_aq 7 q := fun _ h => absurd h List.not_mem_nil
set_option maxRecDepth 20000 in
theorem aqs_8 : ∀ q ∈ pm_als.getD 8 [], pm_aq 8 q := List.forall_mem_cons.mpr ⟨(pm_in1 159 (by rfl) rfl), fun _ h => absurd h List.not_mem_nil⟩
set_option maxRecDepth 20000 in
theorem aqs_9 : ∀ q ∈ pm_als.getD 9 [], pm_aq 9 q := List.forall_mem_cons.mpr ⟨(pm_in2 131 (by rfl) rfl), fun _ h => absurd h List.not_mem_nil⟩
set_option maxRecDepth 20000 in
theorem aqs_10 : ∀ q ∈ pm_als.getD 10 [], pm_aq 10 q := fun _ h => absurd h List.not_mem_nil
set_option maxRecDepth 20000 in
theorem aqs_11 : ∀ q ∈ pm_als.getD 11 [], pm_aq 11 q := fun _ h => absurd h List.not_mem_nil
set_option maxRecDepth 20000 in
theorem aqs_12 : ∀ q ∈ pm_als.getD 12 [], pm_aq 12 q := fun _ h => absurd h List.not_mem_nil
set_option maxRecDepth 20000 in
theorem aqs_13 : ∀ q ∈ pm_als.getD 13 [], pm_aq 13 q := fun _ h => absurd h List.not_mem_nil
set_option maxRecDepth 20000 in
theorem gqs_0 : ∀ q ∈ pm_gss.getD 0 [], pm_gq 0 q := fun _ h => absurd h List.not_mem_nil
set_option maxRecDepth 20000 in
theorem gqs_1 : ∀ q ∈ pm_gss.getD 1 [], pm_gq 1 q := fun _ h => absurd h List.not_mem_nil
set_option maxRecDepth 20000 in
theorem gqs_2 : ∀ q ∈ pm_gss.getD 2 [], pm_gq 2 q := fun _ h => absurd h List.not_mem_nil
set_option maxRecDepth 20000 in
theorem gqs_3 : ∀ q ∈ pm_gss.getD 3 [], pm_gq 3 q := List.forall_mem_cons.mpr ⟨⟨fun h => absurd h (by decide), fun _ => pn_in5 30 (by rfl) rfl, by decide, by decide⟩, List.forall_mem_cons.mpr ⟨⟨fun _ => pm_in5 31 (by rfl) rfl, fun h => absurd h (by decide), by decide, by decide⟩, fun _ h => absurd h List.not_mem_nil⟩⟩
set_option maxRecDepth 20000 in
theorem gqs_4 : ∀ q ∈ pm_gss.getD 4 [], pm_gq 4 q := fun _ h => absurd h List.not_mem_nil
set_option maxRecDepth 20000 in
theorem gqs_5 : ∀ q ∈ pm_gss.getD 5 [], pm_gq 5 q := List.forall_mem_cons.mpr ⟨⟨fun h => absurd h (by decide), fun _ => pn_in3 41 (by rfl) rfl, by decide, by decide⟩, fun _ h => absurd h List.not_mem_nil⟩
set_option maxRecDepth 20000 in
theorem gqs_6 : ∀ q ∈ pm_gss.getD 6 [], pm_gq 6 q := fun _ h => absurd h List.not_mem_nil
set_option maxRecDepth 20000 in
theorem gqs_7 : ∀ q ∈ pm_gss.getD 7 [], pm_gq 7 q := fun _ h => absurd h List.not_mem_nil
set_option maxRecDepth 20000 in
theorem gqs_8 : ∀ q ∈ pm_gss.getD 8 [], pm_gq 8 q := fun _ h => absurd h List.not_mem_nil
set_option maxRecDepth 20000 in
theorem gqs_9 : ∀ q ∈ pm_gss.getD 9 [], pm_gq 9 q := fun _ h => absurd h List.not_mem_nil
set_option maxRecDepth 20000 in
theorem gqs_10 : ∀ q ∈ pm_gss.getD 10 [], pm_gq 10 q := fun _ h => absurd h List.not_mem_nil
set_option maxRecDepth 20000 in
theorem gqs_11 : ∀ q ∈ pm_gss.getD 11 [], pm_gq 11 q := fun _ h => absurd h List.not_mem_nil
set_option maxRecDepth 20000 in
theorem gqs_12 : ∀ q ∈ pm_gss.getD 12 [], pm_gq 12 q := fun _ h => absurd h List.not_mem_nil
set_option maxRecDepth 20000 in
theorem gqs_13 : ∀ q ∈ pm_gss.getD 13 [], pm_gq 13 q := fun _ h => absurd h List.not_mem_nil
set_option maxRecDepth 20000 in
theorem lqs_0 : ∀ q ∈ pm_lds.getD 0 [], pm_lq 0 q := fun _ h => absurd h List.not_mem_nil
set_option maxRecDepth 20000 in
theorem lqs_1 : ∀ q ∈ pm_lds.getD 1 [], pm_lq 1 q := fun _ h => absurd h List.not_mem_nil
set_option maxRecDepth 20000 in
theorem lqs_2 : ∀ q ∈ pm_lds.getD 2 [], pm_lq 2 q := fun _ h => absurd h List.not_mem_nil
set_option maxRecDepth 20000 in
theorem lqs_3 : ∀ q ∈ pm_lds.getD 3 [], pm_lq 3 q := fun _ h => absurd h List.not_mem_nil
set_option maxRecDepth 20000 in
theorem lqs_4 : ∀ q ∈ pm_lds.getD 4 [], pm_lq 4 q := fun _ h => absurd h List.not_mem_nil
set_option maxRecDepth 20000 in
theorem lqs_5 : ∀ q ∈ pm_lds.getD 5 [], pm_lq 5 q := fun _ h => absurd h List.not_mem_nil
set_option maxRecDepth 20000 in
theorem lqs_6 : ∀ q ∈ pm_lds.getD 6 [], pm_lq 6 q := fun _ h => absurd h List.not_mem_nil
set_option maxRecDepth 20000 in
theorem lqs_7 : ∀ q ∈ pm_lds.getD 7 [], pm_lq 7 q := fun _ h => absurd h List.not_mem_nil
set_option maxRecDepth 20000 in
theorem lqs_8 : ∀ q ∈ pm_lds.getD 8 [], pm_lq 8 q := List.forall_mem_cons.mpr ⟨(fun h => absurd h (by decide)), List.forall_mem_cons.mpr ⟨(fun h => absurd h (by decide)), List.forall_mem_cons.mpr ⟨(fun h => absurd h (by decide)), List.forall_mem_cons.mpr ⟨(fun h => absurd h (by decide)), List.forall_mem_cons.mpr ⟨(fun h => absurd h (by decide)), List.forall_mem_cons.mpr ⟨(fun h => absurd h (by decide)), List.forall_mem_cons.mpr ⟨(fun h => absurd h (by decide)), fun _ h => absurd h List.not_mem_nil⟩⟩⟩⟩⟩⟩⟩
set_option maxRecDepth 20000 in
theorem lqs_9 : ∀ q ∈ pm_lds.getD 9 [], pm_lq 9 q := fun _ h => absurd h List.not_mem_nil
set_option maxRecDepth 20000 in
theorem lqs_10 : ∀ q ∈ pm_lds.getD 10 [], pm_lq 10 q := List.forall_mem_cons.mpr ⟨(fun _ => pm_in6 26 (by rfl) rfl), List.forall_mem_cons.mpr ⟨(fun _ => pm_in6 27 (by rfl) rfl), List.forall_mem_cons.mpr ⟨(fun h => absurd h (by decide)), List.forall_mem_cons.mpr ⟨(fun h => absurd h (by decide)), List.forall_mem_cons.mpr ⟨(fun h => absurd h (by decide)), List.forall_mem_cons.mpr ⟨(fun h => absurd h (by decide)), List.forall_mem_cons.mpr ⟨(fun h => absurd h (by decide)), List.forall_mem_cons.mpr ⟨(fun h => absurd h (by decide)), List.forall_mem_cons.mpr ⟨(fun h => absurd h (by decide)), List.forall_mem_cons.mpr ⟨(fun h => absurd h (by decide)), List.forall_mem_cons.mpr ⟨(fun h => absurd h (by decide)), List.forall_mem_cons.mpr ⟨(fun h => absurd h (by decide)), fun _ h => absurd h List.not_mem_nil⟩⟩⟩⟩⟩⟩⟩⟩⟩⟩⟩⟩
set_option maxRecDepth 20000 in
theorem lqs_11 : ∀ q ∈ pm_lds.getD 11 [], pm_lq 11 q := fun _ h => absurd h List.not_mem_nil
set_option maxRecDepth 20000 in
theorem lqs_12 : ∀ q ∈ pm_lds.getD 12 [], pm_lq 12 q := fun _ h => absurd h List.not_mem_nil
set_option maxRecDepth 20000 in
theorem lqs_13 : ∀ q ∈ pm_lds.getD 13 [], pm_lq 13 q := fun _ h => absurd h List.not_mem_nil
theorem pm_mqs : ∀ (o : Nat), ∀ q ∈ pm_mls.getD o [], pm_mq o q := by
  intro o
  match o with
  | 0 => exact mqs_0
  | 1 => exact mqs_1
  | 2 => exact mqs_2
  | 3 => exact mqs_3
  | 4 => exact mqs_4
  | 5 => exact mqs_5
  | 6 => exact mqs_6
  | 7 => exact mqs_7
  | 8 => exact mqs_8
  | 9 => exact mqs_9
  | 10 => exact mqs_10
  | 11 => exact mqs_11
  | 12 => exact mqs_12
  | 13 => exact mqs_13
  | n + 14 => intro q h; exact absurd h List.not_mem_nil
theorem pm_fqs : ∀ (o : Nat), ∀ q ∈ pm_fls.getD o [], pm_fq o q := by
  intro o
  match o with
  | 0 => exact fqs_0
  | 1 => exact fqs_1
  | 2 => exact fqs_2
  | 3 => exact fqs_3
  | 4 => exact fqs_4
  | 5 => exact fqs_5
  | 6 => exact fqs_6
  | 7 => exact fqs_7
  | 8 => exact fqs_8
  | 9 => exact fqs_9
  | 10 => exact fqs_10
  | 11 => exact fqs_11
  | 12 => exact fqs_12
  | 13 => exact fqs_13
  | n + 14 => intro q h; exact absurd h List.not_mem_nil
theorem pm_cqs : ∀ (o : Nat), ∀ q ∈ pm_cls.getD o [], pm_cq o q := by
  intro o
  match o with
  | 0 => exact cqs_0
  | 1 => exact cqs_1
  | 2 => exact cqs_2
  | 3 => exact cqs_3
  | 4 => exact cqs_4
  | 5 => exact cqs_5
  | 6 => exact cqs_6
  | 7 => exact cqs_7
  | 8 => exact cqs_8
  | 9 => exact cqs_9
  | 10 => exact cqs_10
  | 11 => exact cqs_11
  | 12 => exact cqs_12
  | 13 => exact cqs_13
  | n + 14 => intro q h; exact absurd h List.not_mem_nil
theorem pm_aqs : ∀ (o : Nat), ∀ q ∈ pm_als.getD o [], pm_aq o q := by
  intro o
  match o with
  | 0 => exact aqs_0
  | 1 => exact aqs_1
  | 2 => exact aqs_2
  | 3 => exact aqs_3
  | 4 => exact aqs_4
  | 5 => exact aqs_5
  | 6 => exact aqs_6
  | 7 => exact aqs_7
  | 8 => exact aqs_8
  | 9 => exact aqs_9
  | 10 => exact aqs_10
  | 11 => exact aqs_11
  | 12 => exact aqs_12
  | 13 => exact aqs_13
  | n + 14 => intro q h; exact absurd h List.not_mem_nil
theorem pm_gqs : ∀ (o : Nat), ∀ q ∈ pm_gss.getD o [], pm_gq o q := by
  intro o
  match o with
  | 0 => exact gqs_0
  | 1 => exact gqs_1
  | 2 => exact gqs_2
  | 3 => exact gqs_3
  | 4 => exact gqs_4
  | 5 => exact gqs_5
  | 6 => exact gqs_6
  | 7 => exact gqs_7
  | 8 => exact gqs_8
  | 9 => exact gqs_9
  | 10 => exact gqs_10
  | 11 => exact gqs_11
  | 12 => exact gqs_12
  | 13 => exact gqs_13
  | n + 14 => intro q h; exact absurd h List.not_mem_nil
theorem pm_lqs : ∀ (o : Nat), ∀ q ∈ pm_lds.getD o [], pm_lq o q := by
  intro o
  match o with
  | 0 => exact lqs_0
  | 1 => exact lqs_1
  | 2 => exact lqs_2
  | 3 => exact lqs_3
  | 4 => exact lqs_4
  | 5 => exact lqs_5
  | 6 => exact lqs_6
  | 7 => exact lqs_7
  | 8 => exact lqs_8
  | 9 => exact lqs_9
  | 10 => exact lqs_10
  | 11 => exact lqs_11
  | 12 => exact lqs_12
  | 13 => exact lqs_13
  | n + 14 => intro q h; exact absurd h List.not_mem_nil
set_option maxRecDepth 20000 in
theorem lay_0 : ∀ w ∈ u_ws RX0 TX0 9, w ∈ pm_ws := List.forall_mem_cons.mpr ⟨pm_in1 130 (by rfl) rfl, List.forall_mem_cons.mpr ⟨pm_in1 132 (by rfl) rfl, List.forall_mem_cons.mpr ⟨pm_in1 134 (by rfl) rfl, List.forall_mem_cons.mpr ⟨pm_in1 136 (by rfl) rfl, List.forall_mem_cons.mpr ⟨pm_in1 138 (by rfl) rfl, List.forall_mem_cons.mpr ⟨pm_in1 140 (by rfl) rfl, List.forall_mem_cons.mpr ⟨pm_in1 142 (by rfl) rfl, List.forall_mem_cons.mpr ⟨pm_in1 144 (by rfl) rfl, List.forall_mem_cons.mpr ⟨pm_in1 146 (by rfl) rfl, fun _ h => absurd h List.not_mem_nil⟩⟩⟩⟩⟩⟩⟩⟩⟩
theorem ins_0 : Cond.instantiable RX0 9 ∈ pm_ws := pm_in1 82 (by rfl) rfl
set_option maxRecDepth 20000 in
theorem lay_1 : ∀ w ∈ u_ws RX1 TX1 18, w ∈ pm_ws := List.forall_mem_cons.mpr ⟨pm_in2 58 (by rfl) rfl, List.forall_mem_cons.mpr ⟨pm_in2 60 (by rfl) rfl, List.forall_mem_cons.mpr ⟨pm_in2 62 (by rfl) rfl, List.forall_mem_cons.mpr ⟨pm_in2 64 (by rfl) rfl, List.forall_mem_cons.mpr ⟨pm_in2 66 (by rfl) rfl, List.forall_mem_cons.mpr ⟨pm_in2 68 (by rfl) rfl, List.forall_mem_cons.mpr ⟨pm_in2 70 (by rfl) rfl, List.forall_mem_cons.mpr ⟨pm_in2 72 (by rfl) rfl, List.forall_mem_cons.mpr ⟨pm_in2 74 (by rfl) rfl, List.forall_mem_cons.mpr ⟨pm_in2 76 (by rfl) rfl, List.forall_mem_cons.mpr ⟨pm_in2 78 (by rfl) rfl, List.forall_mem_cons.mpr ⟨pm_in2 80 (by rfl) rfl, List.forall_mem_cons.mpr ⟨pm_in2 82 (by rfl) rfl, List.forall_mem_cons.mpr ⟨pm_in2 84 (by rfl) rfl, List.forall_mem_cons.mpr ⟨pm_in2 86 (by rfl) rfl, List.forall_mem_cons.mpr ⟨pm_in2 88 (by rfl) rfl, List.forall_mem_cons.mpr ⟨pm_in2 90 (by rfl) rfl, List.forall_mem_cons.mpr ⟨pm_in2 92 (by rfl) rfl, fun _ h => absurd h List.not_mem_nil⟩⟩⟩⟩⟩⟩⟩⟩⟩⟩⟩⟩⟩⟩⟩⟩⟩⟩
theorem ins_1 : Cond.instantiable RX1 18 ∈ pm_ws := pm_in2 3 (by rfl) rfl
set_option maxRecDepth 20000 in
theorem lay_2 : ∀ w ∈ u_ws RX2 TX2 7, w ∈ pm_ws := List.forall_mem_cons.mpr ⟨pm_in1 227 (by rfl) rfl, List.forall_mem_cons.mpr ⟨pm_in1 229 (by rfl) rfl, List.forall_mem_cons.mpr ⟨pm_in1 231 (by rfl) rfl, List.forall_mem_cons.mpr ⟨pm_in1 233 (by rfl) rfl, List.forall_mem_cons.mpr ⟨pm_in1 235 (by rfl) rfl, List.forall_mem_cons.mpr ⟨pm_in1 237 (by rfl) rfl, List.forall_mem_cons.mpr ⟨pm_in1 239 (by rfl) rfl, fun _ h => absurd h List.not_mem_nil⟩⟩⟩⟩⟩⟩⟩
theorem ins_2 : Cond.instantiable RX2 7 ∈ pm_ws := pm_in1 209 (by rfl) rfl
set_option maxRecDepth 20000 in
theorem lay_3 : ∀ w ∈ u_ws RX3 TX3 8, w ∈ pm_ws := List.forall_mem_cons.mpr ⟨pm_in2 23 (by rfl) rfl, List.forall_mem_cons.mpr ⟨pm_in2 25 (by rfl) rfl, List.forall_mem_cons.mpr ⟨pm_in2 27 (by rfl) rfl, List.forall_mem_cons.mpr ⟨pm_in2 29 (by rfl) rfl, List.forall_mem_cons.mpr ⟨pm_in2 31 (by rfl) rfl, List.forall_mem_cons.mpr ⟨pm_in2 33 (by rfl) rfl, List.forall_mem_cons.mpr ⟨pm_in2 35 (by rfl) rfl, List.forall_mem_cons.mpr ⟨pm_in2 37 (by rfl) rfl, fun _ h => absurd h List.not_mem_nil⟩⟩⟩⟩⟩⟩⟩⟩
theorem ins_3 : Cond.instantiable RX3 8 ∈ pm_ws := pm_in2 9 (by rfl) rfl
set_option maxRecDepth 20000 in
theorem lay_4 : ∀ w ∈ u_ws RX4 TX4 7, w ∈ pm_ws := List.forall_mem_cons.mpr ⟨pm_in2 116 (by rfl) rfl, List.forall_mem_cons.mpr ⟨pm_in2 118 (by rfl) rfl, List.forall_mem_cons.mpr ⟨pm_in2 120 (by rfl) rfl, List.forall_mem_cons.mpr ⟨pm_in2 122 (by rfl) rfl, List.forall_mem_cons.mpr ⟨pm_in2 124 (by rfl) rfl, List.forall_mem_cons.mpr ⟨pm_in2 126 (by rfl) rfl, List.forall_mem_cons.mpr ⟨pm_in2 128 (by rfl) rfl, fun _ h => absurd h List.not_mem_nil⟩⟩⟩⟩⟩⟩⟩
theorem ins_4 : Cond.instantiable RX4 7 ∈ pm_ws := pm_in2 96 (by rfl) rfl
set_option maxRecDepth 20000 in
theorem lay_5 : ∀ w ∈ u_ws RX5 TX5 2, w ∈ pm_ws := List.forall_mem_cons.mpr ⟨pm_in1 44 (by rfl) rfl, List.forall_mem_cons.mpr ⟨pm_in1 46 (by rfl) rfl, fun _ h => absurd h List.not_mem_nil⟩⟩
theorem ins_5 : Cond.instantiable RX5 2 ∈ pm_ws := pm_in1 33 (by rfl) rfl
set_option maxRecDepth 20000 in
theorem lay_6 : ∀ w ∈ u_ws RX6 TX6 5, w ∈ pm_ws := List.forall_mem_cons.mpr ⟨pm_in1 70 (by rfl) rfl, List.forall_mem_cons.mpr ⟨pm_in1 72 (by rfl) rfl, List.forall_mem_cons.mpr ⟨pm_in1 74 (by rfl) rfl, List.forall_mem_cons.mpr ⟨pm_in1 76 (by rfl) rfl, List.forall_mem_cons.mpr ⟨pm_in1 78 (by rfl) rfl, fun _ h => absurd h List.not_mem_nil⟩⟩⟩⟩⟩
theorem ins_6 : Cond.instantiable RX6 5 ∈ pm_ws := pm_in1 51 (by rfl) rfl
set_option maxRecDepth 20000 in
theorem lay_7 : ∀ w ∈ u_ws RX7 TX7 3, w ∈ pm_ws := List.forall_mem_cons.mpr ⟨pm_in1 111 (by rfl) rfl, List.forall_mem_cons.mpr ⟨pm_in1 113 (by rfl) rfl, List.forall_mem_cons.mpr ⟨pm_in1 115 (by rfl) rfl, fun _ h => absurd h List.not_mem_nil⟩⟩⟩
theorem ins_7 : Cond.instantiable RX7 3 ∈ pm_ws := pm_in1 90 (by rfl) rfl
set_option maxRecDepth 20000 in
theorem lay_8 : ∀ w ∈ u_ws RX8 TX8 13, w ∈ pm_ws := List.forall_mem_cons.mpr ⟨pm_in1 181 (by rfl) rfl, List.forall_mem_cons.mpr ⟨pm_in1 183 (by rfl) rfl, List.forall_mem_cons.mpr ⟨pm_in1 185 (by rfl) rfl, List.forall_mem_cons.mpr ⟨pm_in1 187 (by rfl) rfl, List.forall_mem_cons.mpr ⟨pm_in1 189 (by rfl) rfl, List.forall_mem_cons.mpr ⟨pm_in1 191 (by rfl) rfl, List.forall_mem_cons.mpr ⟨pm_in1 193 (by rfl) rfl, List.forall_mem_cons.mpr ⟨pm_in1 195 (by rfl) rfl, List.forall_mem_cons.mpr ⟨pm_in1 197 (by rfl) rfl, List.forall_mem_cons.mpr ⟨pm_in1 199 (by rfl) rfl, List.forall_mem_cons.mpr ⟨pm_in1 201 (by rfl) rfl, List.forall_mem_cons.mpr ⟨pm_in1 203 (by rfl) rfl, List.forall_mem_cons.mpr ⟨pm_in1 205 (by rfl) rfl, fun _ h => absurd h List.not_mem_nil⟩⟩⟩⟩⟩⟩⟩⟩⟩⟩⟩⟩⟩
theorem ins_8 : Cond.instantiable RX8 13 ∈ pm_ws := pm_in1 150 (by rfl) rfl
set_option maxRecDepth 20000 in
theorem lay_9 : ∀ w ∈ u_ws RX9 TX9 15, w ∈ pm_ws := List.forall_mem_cons.mpr ⟨pm_in2 148 (by rfl) rfl, List.forall_mem_cons.mpr ⟨pm_in2 150 (by rfl) rfl, List.forall_mem_cons.mpr ⟨pm_in2 152 (by rfl) rfl, List.forall_mem_cons.mpr ⟨pm_in2 154 (by rfl) rfl, List.forall_mem_cons.mpr ⟨pm_in2 156 (by rfl) rfl, List.forall_mem_cons.mpr ⟨pm_in2 158 (by rfl) rfl, List.forall_mem_cons.mpr ⟨pm_in2 160 (by rfl) rfl, List.forall_mem_cons.mpr ⟨pm_in2 162 (by rfl) rfl, List.forall_mem_cons.mpr ⟨pm_in2 164 (by rfl) rfl, List.forall_mem_cons.mpr ⟨pm_in2 166 (by rfl) rfl, List.forall_mem_cons.mpr ⟨pm_in2 168 (by rfl) rfl, List.forall_mem_cons.mpr ⟨pm_in2 170 (by rfl) rfl, List.forall_mem_cons.mpr ⟨pm_in2 172 (by rfl) rfl, List.forall_mem_cons.mpr ⟨pm_in2 174 (by rfl) rfl, List.forall_mem_cons.mpr ⟨pm_in2 176 (by rfl) rfl, fun _ h => absurd h List.not_mem_nil⟩⟩⟩⟩⟩⟩⟩⟩⟩⟩⟩⟩⟩⟩⟩
theorem ins_9 : Cond.instantiable RX9 15 ∈ pm_ws := pm_in1 25 (by rfl) rfl
set_option maxRecDepth 20000 in
theorem lay_10 : ∀ w ∈ u_ws RX10 TX10 53, w ∈ pm_ws := List.forall_mem_cons.mpr ⟨pm_in6 81 (by rfl) rfl, List.forall_mem_cons.mpr ⟨pm_in6 83 (by rfl) rfl, List.forall_mem_cons.mpr ⟨pm_in6 85 (by rfl) rfl, List.forall_mem_cons.mpr ⟨pm_in6 87 (by rfl) rfl, List.forall_mem_cons.mpr ⟨pm_in6 89 (by rfl) rfl, List.forall_mem_cons.mpr ⟨pm_in6 91 (by rfl) rfl, List.forall_mem_cons.mpr ⟨pm_in6 93 (by rfl) rfl, List.forall_mem_cons.mpr ⟨pm_in6 95 (by rfl) rfl, List.forall_mem_cons.mpr ⟨pm_in6 97 (by rfl) rfl, List.forall_mem_cons.mpr ⟨pm_in6 99 (by rfl) rfl, List.forall_mem_cons.mpr ⟨pm_in6 101 (by rfl) rfl, List.forall_mem_cons.mpr ⟨pm_in6 103 (by rfl) rfl, List.forall_mem_cons.mpr ⟨pm_in6 105 (by rfl) rfl, List.forall_mem_cons.mpr ⟨pm_in6 107 (by rfl) rfl, List.forall_mem_cons.mpr ⟨pm_in6 109 (by rfl) rfl, List.forall_mem_cons.mpr ⟨pm_in6 111 (by rfl) rfl, List.forall_mem_cons.mpr ⟨pm_in6 113 (by rfl) rfl, List.forall_mem_cons.mpr ⟨pm_in6 115 (by rfl) rfl, List.forall_mem_cons.mpr ⟨pm_in6 117 (by rfl) rfl, List.forall_mem_cons.mpr ⟨pm_in6 119 (by rfl) rfl, List.forall_mem_cons.mpr ⟨pm_in6 121 (by rfl) rfl, List.forall_mem_cons.mpr ⟨pm_in6 123 (by rfl) rfl, List.forall_mem_cons.mpr ⟨pm_in6 125 (by rfl) rfl, List.forall_mem_cons.mpr ⟨pm_in6 127 (by rfl) rfl, List.forall_mem_cons.mpr ⟨pm_in6 129 (by rfl) rfl, List.forall_mem_cons.mpr ⟨pm_in6 131 (by rfl) rfl, List.forall_mem_cons.mpr ⟨pm_in6 133 (by rfl) rfl, List.forall_mem_cons.mpr ⟨pm_in6 135 (by rfl) rfl, List.forall_mem_cons.mpr ⟨pm_in6 137 (by rfl) rfl, List.forall_mem_cons.mpr ⟨pm_in6 139 (by rfl) rfl, List.forall_mem_cons.mpr ⟨pm_in6 141 (by rfl) rfl, List.forall_mem_cons.mpr ⟨pm_in6 143 (by rfl) rfl, List.forall_mem_cons.mpr ⟨pm_in6 145 (by rfl) rfl, List.forall_mem_cons.mpr ⟨pm_in6 147 (by rfl) rfl, List.forall_mem_cons.mpr ⟨pm_in6 149 (by rfl) rfl, List.forall_mem_cons.mpr ⟨pm_in6 151 (by rfl) rfl, List.forall_mem_cons.mpr ⟨pm_in6 153 (by rfl) rfl, List.forall_mem_cons.mpr ⟨pm_in6 155 (by rfl) rfl, List.forall_mem_cons.mpr ⟨pm_in6 157 (by rfl) rfl, List.forall_mem_cons.mpr ⟨pm_in6 159 (by rfl) rfl, List.forall_mem_cons.mpr ⟨pm_in6 161 (by rfl) rfl, List.forall_mem_cons.mpr ⟨pm_in6 163 (by rfl) rfl, List.forall_mem_cons.mpr ⟨pm_in6 165 (by rfl) rfl, List.forall_mem_cons.mpr ⟨pm_in6 167 (by rfl) rfl, List.forall_mem_cons.mpr ⟨pm_in6 169 (by rfl) rfl, List.forall_mem_cons.mpr ⟨pm_in6 171 (by rfl) rfl, List.forall_mem_cons.mpr ⟨pm_in6 173 (by rfl) rfl, List.forall_mem_cons.mpr ⟨pm_in6 175 (by rfl) rfl, List.forall_mem_cons.mpr ⟨pm_in6 177 (by rfl) rfl, List.forall_mem_cons.mpr ⟨pm_in6 179 (by rfl) rfl, List.forall_mem_cons.mpr ⟨pm_in6 181 (by rfl) rfl, List.forall_mem_cons.mpr ⟨pm_in6 183 (by rfl) rfl, List.forall_mem_cons.mpr ⟨pm_in6 185 (by rfl) rfl, fun _ h => absurd h List.not_mem_nil⟩⟩⟩⟩⟩⟩⟩⟩⟩⟩⟩⟩⟩⟩⟩⟩⟩⟩⟩⟩⟩⟩⟩⟩⟩⟩⟩⟩⟩⟩⟩⟩⟩⟩⟩⟩⟩⟩⟩⟩⟩⟩⟩⟩⟩⟩⟩⟩⟩⟩⟩⟩⟩
theorem ins_10 : Cond.instantiable RX10 53 ∈ pm_ws := pm_in6 21 (by rfl) rfl
theorem pw_ai : Cond.arrayClass .int ∈ pm_ws := pm_in1 49 (by rfl) rfl
theorem pw_ab : Cond.arrayClass .byte ∈ pm_ws := pm_in3 126 (by rfl) rfl
theorem pw_al : Cond.arrayClass .long ∈ pm_ws := pm_in8 154 (by rfl) rfl
theorem pw_xs : Cond.static Lib.Math.max.name ∈ pm_ws := pm_in3 166 (by rfl) rfl
theorem pw_xc : Cond.code Lib.Math.max.name Lib.Math.max.code 2 (some .int) ∈ pm_ws := pm_in3 167 (by rfl) rfl
theorem pw_ns : Cond.static Lib.Math.min.name ∈ pm_ws := pm_in2 200 (by rfl) rfl
theorem pw_nc : Cond.code Lib.Math.min.name Lib.Math.min.code 2 (some .int) ∈ pm_ws := pm_in2 201 (by rfl) rfl
theorem pw_mi : Cond.initialized "java/lang/Math" ∈ pm_ws := pm_in1 12 (by rfl) rfl
theorem pw_yn : Cond.native arraycopyName ∈ pm_ws := pm_in4 231 (by rfl) rfl
theorem pw_ys : Cond.static arraycopyName ∈ pm_ws := pm_in4 230 (by rfl) rfl
theorem pw_yi : Cond.initialized "java/lang/System" ∈ pm_ws := pm_in1 19 (by rfl) rfl
theorem pw_oi : Cond.instanceMethod objectInit ∈ pm_ws := pm_in1 30 (by rfl) rfl
theorem pw_oc : Cond.code objectInit ⟨#[0xb1]⟩ 1 none ∈ pm_ws := pm_in1 31 (by rfl) rfl
