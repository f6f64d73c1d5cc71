/-! the types of the fields -/
theorem ft_0_0 : ai_fty 0 0 = some (.object "OneBell$House") := by decide +kernel
theorem ft_0_1 : ai_fty 0 1 = some (.array (.long)) := by decide +kernel
theorem ft_0_2 : ai_fty 0 2 = some (.array (.long)) := by decide +kernel
theorem ft_1_0 : ai_fty 1 0 = some (.object "OneBell$House") := by decide +kernel
theorem ft_1_1 : ai_fty 1 1 = some (.object "OneBell$Search") := by decide +kernel
theorem ft_1_2 : ai_fty 1 2 = some (.array (.int)) := by decide +kernel
theorem ft_1_3 : ai_fty 1 3 = some (.array (.int)) := by decide +kernel
theorem ft_1_4 : ai_fty 1 4 = some (.int) := by decide +kernel
theorem ft_2_0 : ai_fty 2 0 = some (.int) := by decide +kernel
theorem ft_2_1 : ai_fty 2 1 = some (.int) := by decide +kernel
theorem ft_2_2 : ai_fty 2 2 = some (.int) := by decide +kernel
theorem ft_2_3 : ai_fty 2 3 = some (.int) := by decide +kernel
theorem ft_2_4 : ai_fty 2 4 = some (.int) := by decide +kernel
theorem ft_2_5 : ai_fty 2 5 = some (.int) := by decide +kernel
theorem ft_2_6 : ai_fty 2 6 = some (.int) := by decide +kernel
theorem ft_2_7 : ai_fty 2 7 = some (.array (.int)) := by decide +kernel
theorem ft_2_8 : ai_fty 2 8 = some (.array (.int)) := by decide +kernel
theorem ft_2_9 : ai_fty 2 9 = some (.array (.int)) := by decide +kernel
theorem ft_2_10 : ai_fty 2 10 = some (.array (.int)) := by decide +kernel
theorem ft_2_11 : ai_fty 2 11 = some (.array (.int)) := by decide +kernel
theorem ft_3_0 : ai_fty 3 0 = some (.int) := by decide +kernel
theorem ft_3_1 : ai_fty 3 1 = some (.int) := by decide +kernel
theorem ft_3_2 : ai_fty 3 2 = some (.array (.long)) := by decide +kernel
theorem ft_4_0 : ai_fty 4 0 = some (.array (.int)) := by decide +kernel
theorem ft_4_1 : ai_fty 4 1 = some (.array (.int)) := by decide +kernel
theorem ft_4_2 : ai_fty 4 2 = some (.array (.int)) := by decide +kernel
theorem ft_4_3 : ai_fty 4 3 = some (.array (.int)) := by decide +kernel
theorem ft_4_4 : ai_fty 4 4 = some (.array (.long)) := by decide +kernel
theorem ft_5_0 : ai_fty 5 0 = some (.int) := by decide +kernel
theorem ft_5_1 : ai_fty 5 1 = some (.int) := by decide +kernel
theorem ft_5_2 : ai_fty 5 2 = some (.array (.int)) := by decide +kernel
theorem ft_5_3 : ai_fty 5 3 = some (.int) := by decide +kernel
theorem ft_5_4 : ai_fty 5 4 = some (.int) := by decide +kernel
theorem ft_5_5 : ai_fty 5 5 = some (.int) := by decide +kernel
theorem ft_5_6 : ai_fty 5 6 = some (.int) := by decide +kernel
theorem ft_6_0 : ai_fty 6 0 = some (.int) := by decide +kernel
theorem ft_6_1 : ai_fty 6 1 = some (.array (.int)) := by decide +kernel
theorem ft_7_0 : ai_fty 7 0 = some (.int) := by decide +kernel
theorem ft_7_1 : ai_fty 7 1 = some (.int) := by decide +kernel
theorem ft_7_2 : ai_fty 7 2 = some (.array (.int)) := by decide +kernel
theorem ft_7_3 : ai_fty 7 3 = some (.array (.int)) := by decide +kernel
theorem ft_7_4 : ai_fty 7 4 = some (.array (.int)) := by decide +kernel
theorem ft_7_5 : ai_fty 7 5 = some (.int) := by decide +kernel
theorem ft_7_6 : ai_fty 7 6 = some (.int) := by decide +kernel
theorem ft_8_0 : ai_fty 8 0 = some (.object "OneBell$House") := by decide +kernel
theorem ft_8_1 : ai_fty 8 1 = some (.object "OneBell$Search") := by decide +kernel
theorem ft_8_2 : ai_fty 8 2 = some (.array (.int)) := by decide +kernel
theorem ft_8_3 : ai_fty 8 3 = some (.array (.int)) := by decide +kernel
theorem ft_8_4 : ai_fty 8 4 = some (.int) := by decide +kernel
theorem ft_8_5 : ai_fty 8 5 = some (.int) := by decide +kernel
theorem ft_8_6 : ai_fty 8 6 = some (.array (.int)) := by decide +kernel
theorem ft_8_7 : ai_fty 8 7 = some (.array (.int)) := by decide +kernel
theorem ft_9_0 : ai_fty 9 0 = some (.object "OneBell$House") := by decide +kernel
theorem ft_9_1 : ai_fty 9 1 = some (.array (.int)) := by decide +kernel
theorem ft_9_2 : ai_fty 9 2 = some (.array (.int)) := by decide +kernel
theorem ft_9_3 : ai_fty 9 3 = some (.array (.int)) := by decide +kernel
theorem ft_9_4 : ai_fty 9 4 = some (.array (.int)) := by decide +kernel
theorem ft_10_0 : ai_fty 10 0 = some (.array (.int)) := by decide +kernel
theorem ft_10_1 : ai_fty 10 1 = some (.int) := by decide +kernel
theorem ft_10_2 : ai_fty 10 2 = some (.object "OneBell$Reader") := by decide +kernel
theorem ft_10_3 : ai_fty 10 3 = some (.object "OneBell$House") := by decide +kernel
theorem ft_10_4 : ai_fty 10 4 = some (.object "OneBell$House") := by decide +kernel
theorem ft_10_5 : ai_fty 10 5 = some (.object "OneBell$Route") := by decide +kernel
theorem ft_10_6 : ai_fty 10 6 = some (.object "OneBell$Route") := by decide +kernel
theorem ft_10_7 : ai_fty 10 7 = some (.array (.object "OneBell$NumberRow")) := by decide +kernel
theorem ft_10_8 : ai_fty 10 8 = some (.array (.object "OneBell$House")) := by decide +kernel
theorem ft_10_9 : ai_fty 10 9 = some (.array (.object "OneBell$Route")) := by decide +kernel
theorem ft_10_10 : ai_fty 10 10 = some (.object "OneBell$Search") := by decide +kernel
theorem ft_10_11 : ai_fty 10 11 = some (.object "OneBell$Search") := by decide +kernel
theorem ft_10_12 : ai_fty 10 12 = some (.object "OneBell$Sets") := by decide +kernel
theorem ft_10_13 : ai_fty 10 13 = some (.object "OneBell$Pairs") := by decide +kernel
theorem ft_10_14 : ai_fty 10 14 = some (.object "OneBell$Company") := by decide +kernel
theorem ft_10_15 : ai_fty 10 15 = some (.object "OneBell$Sight") := by decide +kernel
theorem ft_10_16 : ai_fty 10 16 = some (.object "OneBell$Chances") := by decide +kernel
theorem ft_11_0 : ai_fty 11 0 = some (.int) := by decide +kernel
theorem ft_11_1 : ai_fty 11 1 = some (.array (.int)) := by decide +kernel
theorem ft_11_2 : ai_fty 11 2 = some (.array (.boolean)) := by decide +kernel
theorem ft_11_3 : ai_fty 11 3 = some (.array (.int)) := by decide +kernel
theorem ft_11_4 : ai_fty 11 4 = some (.array (.int)) := by decide +kernel
theorem ft_11_5 : ai_fty 11 5 = some (.int) := by decide +kernel
theorem ft_11_6 : ai_fty 11 6 = some (.int) := by decide +kernel
theorem ft_11_7 : ai_fty 11 7 = some (.int) := by decide +kernel
theorem ft_11_8 : ai_fty 11 8 = some (.int) := by decide +kernel
theorem ft_11_9 : ai_fty 11 9 = some (.int) := by decide +kernel
theorem ft_11_10 : ai_fty 11 10 = some (.int) := by decide +kernel
theorem ft_11_11 : ai_fty 11 11 = some (.int) := by decide +kernel
theorem ft_11_12 : ai_fty 11 12 = some (.int) := by decide +kernel
theorem ft_11_13 : ai_fty 11 13 = some (.int) := by decide +kernel
theorem ft_11_14 : ai_fty 11 14 = some (.int) := by decide +kernel
theorem ft_11_15 : ai_fty 11 15 = some (.array (.int)) := by decide +kernel
theorem ft_11_16 : ai_fty 11 16 = some (.array (.int)) := by decide +kernel
theorem ft_11_17 : ai_fty 11 17 = some (.array (.int)) := by decide +kernel
theorem ft_11_18 : ai_fty 11 18 = some (.array (.int)) := by decide +kernel
theorem ft_11_19 : ai_fty 11 19 = some (.array (.int)) := by decide +kernel
theorem ft_11_20 : ai_fty 11 20 = some (.array (.int)) := by decide +kernel
theorem ft_11_21 : ai_fty 11 21 = some (.int) := by decide +kernel
theorem ft_11_22 : ai_fty 11 22 = some (.int) := by decide +kernel
theorem ft_11_23 : ai_fty 11 23 = some (.array (.int)) := by decide +kernel
theorem ft_11_24 : ai_fty 11 24 = some (.array (.boolean)) := by decide +kernel
theorem ft_11_25 : ai_fty 11 25 = some (.array (.long)) := by decide +kernel
theorem ft_11_26 : ai_fty 11 26 = some (.array (.long)) := by decide +kernel
theorem ft_11_27 : ai_fty 11 27 = some (.array (.int)) := by decide +kernel
theorem ft_11_28 : ai_fty 11 28 = some (.array (.int)) := by decide +kernel
theorem ft_11_29 : ai_fty 11 29 = some (.array (.int)) := by decide +kernel
theorem ft_11_30 : ai_fty 11 30 = some (.array (.int)) := by decide +kernel
theorem ft_11_31 : ai_fty 11 31 = some (.array (.long)) := by decide +kernel
theorem ft_11_32 : ai_fty 11 32 = some (.array (.boolean)) := by decide +kernel
theorem ft_11_33 : ai_fty 11 33 = some (.array (.long)) := by decide +kernel
theorem ft_11_34 : ai_fty 11 34 = some (.array (.long)) := by decide +kernel
theorem ft_11_35 : ai_fty 11 35 = some (.array (.int)) := by decide +kernel
theorem ft_11_36 : ai_fty 11 36 = some (.array (.int)) := by decide +kernel
theorem ft_11_37 : ai_fty 11 37 = some (.array (.int)) := by decide +kernel
theorem ft_11_38 : ai_fty 11 38 = some (.array (.int)) := by decide +kernel
theorem ft_11_39 : ai_fty 11 39 = some (.array (.long)) := by decide +kernel
def hpA : ai_H := [.inr (10, [.ref 1, .int 0, .ref 2, .ref 3, .ref 9, .ref 15, .ref 17, .ref 19, .ref 20, .ref 21, .ref 22, .ref 23, .ref 24, .ref 27, .ref 33, .ref 36, .ref 41]),
  .inl (0, 600, .inl (fun _ => 0)),
  .inr (5, [.int 0, .int (-1), .null, .int 0, .int 0, .int 0, .int 0]),
  .inr (2, [.int 0, .int 0, .int 0, .int 0, .int 0, .int 0, .int 0, .ref 4, .ref 5, .ref 6, .ref 7, .ref 8]),
  .inl (0, 84, .inl (fun _ => 0)),
  .inl (0, 84, .inl (fun _ => 0)),
  .inl (0, 84, .inl (fun _ => 0)),
  .inl (0, 14, .inl (fun _ => 0)),
  .inl (0, 8, .inl (fun _ => 0)),
  .inr (2, [.int 0, .int 0, .int 0, .int 0, .int 0, .int 0, .int 0, .ref 10, .ref 11, .ref 12, .ref 13, .ref 14]),
  .inl (0, 84, .inl (fun _ => 0)),
  .inl (0, 84, .inl (fun _ => 0)),
  .inl (0, 84, .inl (fun _ => 0)),
  .inl (0, 14, .inl (fun _ => 0)),
  .inl (0, 8, .inl (fun _ => 0)),
  .inr (6, [.int (-1), .ref 16]),
  .inl (0, 500, .inl (fun _ => 0)),
  .inr (6, [.int (-1), .ref 18]),
  .inl (0, 500, .inl (fun _ => 0)),
  .inl (3, 4, .inr (.inr (.inr (.inr (va_up (va_up (va_up (va_up (fun _ => none) 0 (some 44)) 1 (some 46)) 2 (some 48)) 3 (some 50)))))),
  .inl (4, 2, .inr (.inr (.inr (.inr (fun _ => none))))),
  .inl (5, 2, .inr (.inr (.inr (.inr (fun _ => none))))),
  .inr (7, [.int 16384, .int 16383, .null, .null, .null, .int 0, .int 0]),
  .inr (7, [.int 30001, .int 65535, .null, .null, .null, .int 0, .int 0]),
  .inr (8, [.ref 3, .ref 22, .ref 25, .ref 26, .int 0, .int 0, .null, .null]),
  .inl (0, 1536, .inl (fun _ => 0)),
  .inl (0, 10, .inl (fun _ => 0)),
  .inr (4, [.ref 28, .ref 29, .ref 30, .ref 31, .ref 32]),
  .inl (0, 196, .inl (fun _ => 0)),
  .inl (0, 14, .inl (fun _ => 0)),
  .inl (0, 196, .inl (fun _ => 0)),
  .inl (0, 196, .inl (fun _ => 0)),
  .inl (1, 196, .inr (.inl (fun _ => 0))),
  .inr (1, [.ref 3, .ref 22, .ref 34, .ref 35, .int 0]),
  .inl (0, 8, .inl (fun _ => 0)),
  .inl (0, 3, .inl (fun _ => 0)),
  .inr (9, [.ref 3, .ref 37, .ref 38, .ref 39, .ref 40]),
  .inl (0, 84, .inl (fun _ => 0)),
  .inl (0, 84, .inl (fun _ => 0)),
  .inl (0, 10, .inl (fun _ => 0)),
  .inl (0, 14, .inl (fun _ => 0)),
  .inr (0, [.ref 3, .ref 42, .ref 43]),
  .inl (1, 14, .inr (.inl (fun _ => 0))),
  .inl (1, 14, .inr (.inl (fun _ => 0))),
  .inr (3, [.int (-1), .int 0, .ref 45]),
  .inl (1, 40, .inr (.inl (fun _ => 0))),
  .inr (3, [.int (-1), .int 0, .ref 47]),
  .inl (1, 40, .inr (.inl (fun _ => 0))),
  .inr (3, [.int (-1), .int 0, .ref 49]),
  .inl (1, 40, .inr (.inl (fun _ => 0))),
  .inr (3, [.int (-1), .int 0, .ref 51]),
  .inl (1, 40, .inr (.inl (fun _ => 0)))]
def hpB : ai_H := [.inr (11, [.int 0, .ref 53, .ref 54, .ref 55, .ref 56, .int 0, .int 0, .int 0, .int 0, .int 0, .int 0, .int 0, .int 0, .int 0, .int (-1), .ref 57, .ref 58, .ref 59, .ref 60, .ref 61, .ref 62, .int 0, .int 0, .ref 63, .ref 64, .ref 65, .ref 66, .ref 67, .ref 68, .ref 69, .ref 70, .ref 71, .ref 72, .ref 73, .ref 74, .ref 75, .ref 76, .ref 77, .ref 78, .ref 79]),
  .inl (0, 2346, .inl (upd (fun _ => 0) 281 (-1))),
  .inl (2, 2, .inl (fun _ => 0)),
  .inl (0, 600, .inl (fun _ => 0)),
  .inl (0, 281, .inl (fun _ => 0)),
  .inl (0, 30002, .inl (fun _ => 0)),
  .inl (0, 30002, .inl (fun _ => 0)),
  .inl (0, 30002, .inl (fun _ => 0)),
  .inl (0, 30002, .inl (fun _ => 0)),
  .inl (0, 65536, .inl (fun _ => 0)),
  .inl (0, 65536, .inl (fun _ => 0)),
  .inl (0, 700, .inl (fun _ => 0)),
  .inl (2, 196, .inl (fun _ => 0)),
  .inl (1, 16384, .inr (.inl (fun _ => 0))),
  .inl (1, 16384, .inr (.inl (fun _ => 0))),
  .inl (0, 14, .inl (fun _ => 0)),
  .inl (0, 14, .inl (fun _ => 0)),
  .inl (0, 14, .inl (fun _ => 0)),
  .inl (0, 16384, .inl (fun _ => 0)),
  .inl (1, 8036, .inr (.inl (fun _ => 0))),
  .inl (2, 8036, .inl (fun _ => 0)),
  .inl (1, 14, .inr (.inl (fun _ => 0))),
  .inl (1, 14, .inr (.inl (fun _ => 0))),
  .inl (0, 4, .inl (fun _ => 0)),
  .inl (0, 8, .inl (fun _ => 0)),
  .inl (0, 4, .inl (upd (upd (upd (upd (fun _ => 0) 0 (-1)) 1 (-1)) 2 (-1)) 3 (-1))),
  .inl (0, 4, .inl (fun _ => 0)),
  .inl (1, 160, .inr (.inl (fun _ => 0)))]
set_option maxRecDepth 100000 in
set_option maxHeartbeats 4000000 in
theorem hp_cls (X : ai_X) : ai_run X 300 am_128 (ar_128, ai_loc 2 [.ref 0], [], [.inr (10, ad_10)]) = some (none, hpA, 51, 4978) := by rfl
set_option maxRecDepth 100000 in
set_option maxHeartbeats 4000000 in
theorem hp_mdl (X : ai_X) : ai_run X 300 am_182 (ar_182, ai_loc 1 [.ref 52], [], hpA ++ [.inr (11, ad_11)]) = some (none, hpA ++ hpB, 27, 320679) := by rfl
