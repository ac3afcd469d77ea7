/-! the memory, cell by cell -/
abbrev fk0 : List (Nat × Nat) := [(2, 1), (2, 3), (2, 5), (2, 12), (2, 14), (2, 18), (0, 0)]
theorem so0 : shape[0]? = some (.inr (.inl (5, fk0))) := rfl
theorem fk0_0 : fk0[0]? = some (2, 1) := rfl
theorem fk0_1 : fk0[1]? = some (2, 3) := rfl
theorem fk0_2 : fk0[2]? = some (2, 5) := rfl
theorem fk0_3 : fk0[3]? = some (2, 12) := rfl
theorem fk0_4 : fk0[4]? = some (2, 14) := rfl
theorem fk0_5 : fk0[5]? = some (2, 18) := rfl
theorem fk0_6 : fk0[6]? = some (0, 0) := rfl
abbrev fk1 : List (Nat × Nat) := [(2, 2)]
theorem so1 : shape[1]? = some (.inr (.inl (0, fk1))) := rfl
theorem fk1_0 : fk1[0]? = some (2, 2) := rfl
abbrev fk3 : List (Nat × Nat) := [(2, 4), (0, 0), (0, 0)]
theorem so3 : shape[3]? = some (.inr (.inl (1, fk3))) := rfl
theorem fk3_0 : fk3[0]? = some (2, 4) := rfl
theorem fk3_1 : fk3[1]? = some (0, 0) := rfl
theorem fk3_2 : fk3[2]? = some (0, 0) := rfl
abbrev fk5 : List (Nat × Nat) := [(2, 6), (2, 7), (2, 8), (2, 9), (2, 10), (2, 11), (0, 0), (0, 0), (0, 0), (0, 0), (0, 0), (0, 0)]
theorem so5 : shape[5]? = some (.inr (.inl (2, fk5))) := rfl
theorem fk5_0 : fk5[0]? = some (2, 6) := rfl
theorem fk5_1 : fk5[1]? = some (2, 7) := rfl
theorem fk5_2 : fk5[2]? = some (2, 8) := rfl
theorem fk5_3 : fk5[3]? = some (2, 9) := rfl
theorem fk5_4 : fk5[4]? = some (2, 10) := rfl
theorem fk5_5 : fk5[5]? = some (2, 11) := rfl
theorem fk5_6 : fk5[6]? = some (0, 0) := rfl
theorem fk5_7 : fk5[7]? = some (0, 0) := rfl
theorem fk5_8 : fk5[8]? = some (0, 0) := rfl
theorem fk5_9 : fk5[9]? = some (0, 0) := rfl
theorem fk5_10 : fk5[10]? = some (0, 0) := rfl
theorem fk5_11 : fk5[11]? = some (0, 0) := rfl
abbrev fk12 : List (Nat × Nat) := [(2, 13), (0, 0), (0, 0), (0, 0), (0, 0), (0, 0), (0, 0), (0, 0), (0, 0), (0, 0), (0, 0), (0, 0), (0, 0), (0, 0)]
theorem so12 : shape[12]? = some (.inr (.inl (4, fk12))) := rfl
theorem fk12_0 : fk12[0]? = some (2, 13) := rfl
theorem fk12_1 : fk12[1]? = some (0, 0) := rfl
theorem fk12_2 : fk12[2]? = some (0, 0) := rfl
theorem fk12_3 : fk12[3]? = some (0, 0) := rfl
theorem fk12_4 : fk12[4]? = some (0, 0) := rfl
theorem fk12_5 : fk12[5]? = some (0, 0) := rfl
theorem fk12_6 : fk12[6]? = some (0, 0) := rfl
theorem fk12_7 : fk12[7]? = some (0, 0) := rfl
theorem fk12_8 : fk12[8]? = some (0, 0) := rfl
theorem fk12_9 : fk12[9]? = some (0, 0) := rfl
theorem fk12_10 : fk12[10]? = some (0, 0) := rfl
theorem fk12_11 : fk12[11]? = some (0, 0) := rfl
theorem fk12_12 : fk12[12]? = some (0, 0) := rfl
theorem fk12_13 : fk12[13]? = some (0, 0) := rfl
abbrev fk14 : List (Nat × Nat) := [(2, 15), (2, 16), (2, 17)]
theorem so14 : shape[14]? = some (.inr (.inl (3, fk14))) := rfl
theorem fk14_0 : fk14[0]? = some (2, 15) := rfl
theorem fk14_1 : fk14[1]? = some (2, 16) := rfl
theorem fk14_2 : fk14[2]? = some (2, 17) := rfl
abbrev fk19 : List (Nat × Nat) := [(2, 20), (2, 21), (0, 0), (0, 0), (0, 0), (2, 22), (2, 23), (2, 24), (2, 25), (2, 26), (2, 27), (1, 0), (0, 0), (0, 0), (0, 0), (0, 0), (0, 0), (0, 0), (2, 28), (0, 0), (0, 0), (0, 0), (0, 0), (0, 0), (0, 0), (2, 29), (2, 30), (2, 31), (2, 32)]
theorem so19 : shape[19]? = some (.inr (.inl (6, fk19))) := rfl
theorem fk19_0 : fk19[0]? = some (2, 20) := rfl
theorem fk19_1 : fk19[1]? = some (2, 21) := rfl
theorem fk19_2 : fk19[2]? = some (0, 0) := rfl
theorem fk19_3 : fk19[3]? = some (0, 0) := rfl
theorem fk19_4 : fk19[4]? = some (0, 0) := rfl
theorem fk19_5 : fk19[5]? = some (2, 22) := rfl
theorem fk19_6 : fk19[6]? = some (2, 23) := rfl
theorem fk19_7 : fk19[7]? = some (2, 24) := rfl
theorem fk19_8 : fk19[8]? = some (2, 25) := rfl
theorem fk19_9 : fk19[9]? = some (2, 26) := rfl
theorem fk19_10 : fk19[10]? = some (2, 27) := rfl
theorem fk19_11 : fk19[11]? = some (1, 0) := rfl
theorem fk19_12 : fk19[12]? = some (0, 0) := rfl
theorem fk19_13 : fk19[13]? = some (0, 0) := rfl
theorem fk19_14 : fk19[14]? = some (0, 0) := rfl
theorem fk19_15 : fk19[15]? = some (0, 0) := rfl
theorem fk19_16 : fk19[16]? = some (0, 0) := rfl
theorem fk19_17 : fk19[17]? = some (0, 0) := rfl
theorem fk19_18 : fk19[18]? = some (2, 28) := rfl
theorem fk19_19 : fk19[19]? = some (0, 0) := rfl
theorem fk19_20 : fk19[20]? = some (0, 0) := rfl
theorem fk19_21 : fk19[21]? = some (0, 0) := rfl
theorem fk19_22 : fk19[22]? = some (0, 0) := rfl
theorem fk19_23 : fk19[23]? = some (0, 0) := rfl
theorem fk19_24 : fk19[24]? = some (0, 0) := rfl
theorem fk19_25 : fk19[25]? = some (2, 29) := rfl
theorem fk19_26 : fk19[26]? = some (2, 30) := rfl
theorem fk19_27 : fk19[27]? = some (2, 31) := rfl
theorem fk19_28 : fk19[28]? = some (2, 32) := rfl
theorem sa2 : shape[2]? = some (.inl (0, 171)) := rfl
theorem sa4 : shape[4]? = some (.inl (0, 5301)) := rfl
theorem sa6 : shape[6]? = some (.inl (0, 1596)) := rfl
theorem sa7 : shape[7]? = some (.inl (0, 6)) := rfl
theorem sa8 : shape[8]? = some (.inl (0, 6)) := rfl
theorem sa9 : shape[9]? = some (.inl (0, 6)) := rfl
theorem sa10 : shape[10]? = some (.inl (0, 6)) := rfl
theorem sa11 : shape[11]? = some (.inl (2, 3)) := rfl
theorem sa13 : shape[13]? = some (.inl (1, 120)) := rfl
theorem sa15 : shape[15]? = some (.inl (3, 160)) := rfl
theorem sa16 : shape[16]? = some (.inl (0, 4)) := rfl
theorem sa17 : shape[17]? = some (.inl (0, 4)) := rfl
theorem sa18 : shape[18]? = some (.inl (0, 8)) := rfl
theorem sa20 : shape[20]? = some (.inl (0, 139)) := rfl
theorem sa22 : shape[22]? = some (.inl (0, 8)) := rfl
theorem sa23 : shape[23]? = some (.inl (0, 139)) := rfl
theorem sa24 : shape[24]? = some (.inl (0, 6)) := rfl
theorem sa25 : shape[25]? = some (.inl (0, 6)) := rfl
theorem sa26 : shape[26]? = some (.inl (0, 6)) := rfl
theorem sa27 : shape[27]? = some (.inl (0, 6)) := rfl
theorem sa28 : shape[28]? = some (.inl (0, 120)) := rfl
theorem sa29 : shape[29]? = some (.inl (0, 4)) := rfl
theorem sa30 : shape[30]? = some (.inl (0, 4)) := rfl
theorem sa32 : shape[32]? = some (.inl (3, 40)) := rfl
theorem sa21 : shape[21]? = some (.inr (.inr (4, 30, 37))) := rfl
theorem sa31 : shape[31]? = some (.inr (.inr (5, 4, 33))) := rfl
theorem clX0 : (classes[0]?).map (fun q => q.1) = some RX0 := rfl
theorem clX2 : (classes[1]?).map (fun q => q.1) = some RX2 := rfl
theorem clX3 : (classes[2]?).map (fun q => q.1) = some RX3 := rfl
theorem clX4 : (classes[3]?).map (fun q => q.1) = some RX4 := rfl
theorem clX5 : (classes[4]?).map (fun q => q.1) = some RX5 := rfl
theorem clX6 : (classes[5]?).map (fun q => q.1) = some RX6 := rfl
theorem clX7 : (classes[6]?).map (fun q => q.1) = some RX7 := rfl
