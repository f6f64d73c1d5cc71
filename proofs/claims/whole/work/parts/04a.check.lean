/-! the tables hold, method by method -/
set_option maxRecDepth 100000 in
theorem ai_k0 : ai_mk am_0 = true := by decide +kernel
set_option maxRecDepth 100000 in
theorem ai_k1 : ai_mk am_1 = true := by decide +kernel
set_option maxRecDepth 100000 in
theorem ai_k2 : ai_mk am_2 = true := by decide +kernel
set_option maxRecDepth 100000 in
theorem ai_k3 : ai_mk am_3 = true := by decide +kernel
set_option maxRecDepth 100000 in
theorem ai_k4 : ai_mk am_4 = true := by decide +kernel
set_option maxRecDepth 100000 in
theorem ai_k5 : ai_mk am_5 = true := by decide +kernel
set_option maxRecDepth 100000 in
theorem ai_k6 : ai_mk am_6 = true := by decide +kernel
set_option maxRecDepth 100000 in
theorem ai_k7 : ai_mk am_7 = true := by decide +kernel
set_option maxRecDepth 100000 in
theorem ai_k8 : ai_mk am_8 = true := by decide +kernel
set_option maxRecDepth 100000 in
theorem ai_k9 : ai_mk am_9 = true := by decide +kernel
set_option maxRecDepth 100000 in
theorem ai_k10 : ai_mk am_10 = true := by decide +kernel
set_option maxRecDepth 100000 in
theorem ai_k11 : ai_mk am_11 = true := by decide +kernel
set_option maxRecDepth 100000 in
theorem ai_k12 : ai_mk am_12 = true := by decide +kernel
set_option maxRecDepth 100000 in
theorem ai_k13 : ai_mk am_13 = true := by decide +kernel
set_option maxRecDepth 100000 in
theorem ai_k14 : ai_mk am_14 = true := by decide +kernel
set_option maxRecDepth 100000 in
theorem ai_k15 : ai_mk am_15 = true := by decide +kernel
set_option maxRecDepth 100000 in
theorem ai_k16 : ai_mk am_16 = true := by decide +kernel
set_option maxRecDepth 100000 in
theorem ai_k17 : ai_mk am_17 = true := by decide +kernel
set_option maxRecDepth 100000 in
theorem ai_k18 : ai_mk am_18 = true := by decide +kernel
set_option maxRecDepth 100000 in
theorem ai_k19 : ai_mk am_19 = true := by decide +kernel
set_option maxRecDepth 100000 in
theorem ai_k20 : ai_mk am_20 = true := by decide +kernel
set_option maxRecDepth 100000 in
theorem ai_k21 : ai_mk am_21 = true := by decide +kernel
set_option maxRecDepth 100000 in
theorem ai_k22 : ai_mk am_22 = true := by decide +kernel
set_option maxRecDepth 100000 in
theorem ai_k23 : ai_mk am_23 = true := by decide +kernel
set_option maxRecDepth 100000 in
theorem ai_k24 : ai_mk am_24 = true := by decide +kernel
set_option maxRecDepth 100000 in
theorem ai_k25 : ai_mk am_25 = true := by decide +kernel
set_option maxRecDepth 100000 in
theorem ai_k26 : ai_mk am_26 = true := by decide +kernel
set_option maxRecDepth 100000 in
theorem ai_k27 : ai_mk am_27 = true := by decide +kernel
set_option maxRecDepth 100000 in
theorem ai_k28 : ai_mk am_28 = true := by decide +kernel
set_option maxRecDepth 100000 in
theorem ai_k29 : ai_mk am_29 = true := by decide +kernel
set_option maxRecDepth 100000 in
theorem ai_k30 : ai_mk am_30 = true := by decide +kernel
set_option maxRecDepth 100000 in
theorem ai_k31 : ai_mk am_31 = true := by decide +kernel
set_option maxRecDepth 100000 in
theorem ai_k32 : ai_mk am_32 = true := by decide +kernel
set_option maxRecDepth 100000 in
theorem ai_k33 : ai_mk am_33 = true := by decide +kernel
set_option maxRecDepth 100000 in
theorem ai_k34 : ai_mk am_34 = true := by decide +kernel
set_option maxRecDepth 100000 in
theorem ai_k35 : ai_mk am_35 = true := by decide +kernel
set_option maxRecDepth 100000 in
theorem ai_k36 : ai_mk am_36 = true := by decide +kernel
set_option maxRecDepth 100000 in
theorem ai_k37 : ai_mk am_37 = true := by decide +kernel
set_option maxRecDepth 100000 in
theorem ai_k38 : ai_mk am_38 = true := by decide +kernel
set_option maxRecDepth 100000 in
theorem ai_k39 : ai_mk am_39 = true := by decide +kernel
set_option maxRecDepth 100000 in
theorem ai_k40 : ai_mk am_40 = true := by decide +kernel
set_option maxRecDepth 100000 in
theorem ai_k41 : ai_mk am_41 = true := by decide +kernel
set_option maxRecDepth 100000 in
theorem ai_k42 : ai_mk am_42 = true := by decide +kernel
set_option maxRecDepth 100000 in
theorem ai_k43 : ai_mk am_43 = true := by decide +kernel
set_option maxRecDepth 100000 in
theorem ai_k44 : ai_mk am_44 = true := by decide +kernel
set_option maxRecDepth 100000 in
theorem ai_k45 : ai_mk am_45 = true := by decide +kernel
set_option maxRecDepth 100000 in
theorem ai_k46 : ai_mk am_46 = true := by decide +kernel
set_option maxRecDepth 100000 in
theorem ai_k47 : ai_mk am_47 = true := by decide +kernel
set_option maxRecDepth 100000 in
theorem ai_k48 : ai_mk am_48 = true := by decide +kernel
set_option maxRecDepth 100000 in
theorem ai_k49 : ai_mk am_49 = true := by decide +kernel
set_option maxRecDepth 100000 in
theorem ai_k50 : ai_mk am_50 = true := by decide +kernel
set_option maxRecDepth 100000 in
theorem ai_k51 : ai_mk am_51 = true := by decide +kernel
set_option maxRecDepth 100000 in
theorem ai_k52 : ai_mk am_52 = true := by decide +kernel
set_option maxRecDepth 100000 in
theorem ai_k53 : ai_mk am_53 = true := by decide +kernel
set_option maxRecDepth 100000 in
theorem ai_k54 : ai_mk am_54 = true := by decide +kernel
set_option maxRecDepth 100000 in
theorem ai_k55 : ai_mk am_55 = true := by decide +kernel
set_option maxRecDepth 100000 in
theorem ai_k56 : ai_mk am_56 = true := by decide +kernel
set_option maxRecDepth 100000 in
theorem ai_k57 : ai_mk am_57 = true := by decide +kernel
set_option maxRecDepth 100000 in
theorem ai_k58 : ai_mk am_58 = true := by decide +kernel
set_option maxRecDepth 100000 in
theorem ai_k59 : ai_mk am_59 = true := by decide +kernel
