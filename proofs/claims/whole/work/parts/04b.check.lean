/-! the tables hold, method by method -/
set_option maxRecDepth 100000 in
theorem ai_k60 : ai_mk am_60 = true := by decide +kernel
set_option maxRecDepth 100000 in
theorem ai_k61 : ai_mk am_61 = true := by decide +kernel
set_option maxRecDepth 100000 in
theorem ai_k62 : ai_mk am_62 = true := by decide +kernel
set_option maxRecDepth 100000 in
theorem ai_k63 : ai_mk am_63 = true := by decide +kernel
set_option maxRecDepth 100000 in
theorem ai_k64 : ai_mk am_64 = true := by decide +kernel
set_option maxRecDepth 100000 in
theorem ai_k65 : ai_mk am_65 = true := by decide +kernel
set_option maxRecDepth 100000 in
theorem ai_k66 : ai_mk am_66 = true := by decide +kernel
set_option maxRecDepth 100000 in
theorem ai_k67 : ai_mk am_67 = true := by decide +kernel
set_option maxRecDepth 100000 in
theorem ai_k68 : ai_mk am_68 = true := by decide +kernel
set_option maxRecDepth 100000 in
theorem ai_k69 : ai_mk am_69 = true := by decide +kernel
set_option maxRecDepth 100000 in
theorem ai_k70 : ai_mk am_70 = true := by decide +kernel
set_option maxRecDepth 100000 in
theorem ai_k71 : ai_mk am_71 = true := by decide +kernel
set_option maxRecDepth 100000 in
theorem ai_k72 : ai_mk am_72 = true := by decide +kernel
set_option maxRecDepth 100000 in
theorem ai_k73 : ai_mk am_73 = true := by decide +kernel
set_option maxRecDepth 100000 in
theorem ai_k74 : ai_mk am_74 = true := by decide +kernel
set_option maxRecDepth 100000 in
theorem ai_k75 : ai_mk am_75 = true := by decide +kernel
set_option maxRecDepth 100000 in
theorem ai_k76 : ai_mk am_76 = true := by decide +kernel
set_option maxRecDepth 100000 in
theorem ai_k77 : ai_mk am_77 = true := by decide +kernel
set_option maxRecDepth 100000 in
theorem ai_k78 : ai_mk am_78 = true := by decide +kernel
set_option maxRecDepth 100000 in
theorem ai_k79 : ai_mk am_79 = true := by decide +kernel
set_option maxRecDepth 100000 in
theorem ai_k80 : ai_mk am_80 = true := by decide +kernel
set_option maxRecDepth 100000 in
theorem ai_k81 : ai_mk am_81 = true := by decide +kernel
set_option maxRecDepth 100000 in
theorem ai_k82 : ai_mk am_82 = true := by decide +kernel
set_option maxRecDepth 100000 in
theorem ai_k83 : ai_mk am_83 = true := by decide +kernel
set_option maxRecDepth 100000 in
theorem ai_k84 : ai_mk am_84 = true := by decide +kernel
set_option maxRecDepth 100000 in
theorem ai_k85 : ai_mk am_85 = true := by decide +kernel
set_option maxRecDepth 100000 in
theorem ai_k86 : ai_mk am_86 = true := by decide +kernel
set_option maxRecDepth 100000 in
theorem ai_k87 : ai_mk am_87 = true := by decide +kernel
set_option maxRecDepth 100000 in
theorem ai_k88 : ai_mk am_88 = true := by decide +kernel
set_option maxRecDepth 100000 in
theorem ai_k89 : ai_mk am_89 = true := by decide +kernel
set_option maxRecDepth 100000 in
theorem ai_k90 : ai_mk am_90 = true := by decide +kernel
set_option maxRecDepth 100000 in
theorem ai_k91 : ai_mk am_91 = true := by decide +kernel
set_option maxRecDepth 100000 in
theorem ai_k92 : ai_mk am_92 = true := by decide +kernel
set_option maxRecDepth 100000 in
theorem ai_k93 : ai_mk am_93 = true := by decide +kernel
set_option maxRecDepth 100000 in
theorem ai_k94 : ai_mk am_94 = true := by decide +kernel
set_option maxRecDepth 100000 in
theorem ai_k95 : ai_mk am_95 = true := by decide +kernel
set_option maxRecDepth 100000 in
theorem ai_k96 : ai_mk am_96 = true := by decide +kernel
set_option maxRecDepth 100000 in
theorem ai_k97 : ai_mk am_97 = true := by decide +kernel
set_option maxRecDepth 100000 in
theorem ai_k98 : ai_mk am_98 = true := by decide +kernel
set_option maxRecDepth 100000 in
theorem ai_k99 : ai_mk am_99 = true := by decide +kernel
set_option maxRecDepth 100000 in
theorem ai_k100 : ai_mk am_100 = true := by decide +kernel
set_option maxRecDepth 100000 in
theorem ai_k101 : ai_mk am_101 = true := by decide +kernel
set_option maxRecDepth 100000 in
theorem ai_k102 : ai_mk am_102 = true := by decide +kernel
set_option maxRecDepth 100000 in
theorem ai_k103 : ai_mk am_103 = true := by decide +kernel
set_option maxRecDepth 100000 in
theorem ai_k104 : ai_mk am_104 = true := by decide +kernel
set_option maxRecDepth 100000 in
theorem ai_k105 : ai_mk am_105 = true := by decide +kernel
set_option maxRecDepth 100000 in
theorem ai_k106 : ai_mk am_106 = true := by decide +kernel
set_option maxRecDepth 100000 in
theorem ai_k107 : ai_mk am_107 = true := by decide +kernel
set_option maxRecDepth 100000 in
theorem ai_k108 : ai_mk am_108 = true := by decide +kernel
set_option maxRecDepth 100000 in
theorem ai_k109 : ai_mk am_109 = true := by decide +kernel
set_option maxRecDepth 100000 in
theorem ai_k110 : ai_mk am_110 = true := by decide +kernel
set_option maxRecDepth 100000 in
theorem ai_k111 : ai_mk am_111 = true := by decide +kernel
set_option maxRecDepth 100000 in
theorem ai_k112 : ai_mk am_112 = true := by decide +kernel
set_option maxRecDepth 100000 in
theorem ai_k113 : ai_mk am_113 = true := by decide +kernel
set_option maxRecDepth 100000 in
theorem ai_k114 : ai_mk am_114 = true := by decide +kernel
set_option maxRecDepth 100000 in
theorem ai_k115 : ai_mk am_115 = true := by decide +kernel
set_option maxRecDepth 100000 in
theorem ai_k116 : ai_mk am_116 = true := by decide +kernel
set_option maxRecDepth 100000 in
theorem ai_k117 : ai_mk am_117 = true := by decide +kernel
set_option maxRecDepth 100000 in
theorem ai_k118 : ai_mk am_118 = true := by decide +kernel
set_option maxRecDepth 100000 in
theorem ai_k119 : ai_mk am_119 = true := by decide +kernel
