set_option maxRecDepth 100000 in
theorem z_ck_0 : z_pair 0 4199 1007 4197 4198 [0, 0, 4200, 2030, 0, 0, 2030, 4201, 2032, 0, 0, 2047, 0, 0, 0, 0, 0, 0, 2025, 0, 0, 0, 0, 0, 0, 0, 0, 0, 0, 0, 0, 2047, 0, 0, 2047, 0, 0, 4202, 0, 0, 2017, 0, 0, 1149, 0, 0, 0, 0, 2021, 0, 0, 1153, 0, 0, 0, 0, 2025, 0, 2017, 0, 0, 0, 0, 0, 0, 2021, 0, 0, 0, 0, 0, 0, 2025, 0, 2021, 0, 0, 0, 0, 0, 0, 2017, 0, 0, 0, 0, 0, 0, 0, 2047, 0, 0, 2017, 0, 0, 0, 0, 0, 0, 2021, 0, 0, 0, 0, 0, 2047, 0, 0, 0, 0, 2037, 0, 0, 0, 0, 0, 0, 2025, 0, 0, 0, 0, 0, 2037, 0, 0, 0, 0, 2037, 0, 0, 0, 0, 2037, 4201, 2041] = true := by decide +kernel
set_option maxRecDepth 100000 in
theorem z_ck_1 : z_pair 1 4205 1007 4203 4204 [0, 2030] = true := by decide +kernel
set_option maxRecDepth 100000 in
theorem z_ck_2 : z_pair 2 5023 1007 5021 5022 [0, 2037] = true := by decide +kernel
set_option maxRecDepth 100000 in
theorem z_ck_3 : z_pair 3 5019 1007 5017 5018 [0, 0, 5020] = true := by decide +kernel
set_option maxRecDepth 100000 in
theorem z_ck_4 : z_pair 4 5210 1007 5209 55 [0, 0, 0, 0, 0, 0, 0, 0, 0, 0, 0, 0, 0, 0, 0, 0, 4202, 0, 0, 0, 0, 0, 0, 2017, 0, 0, 0, 0, 0, 0, 0, 2021, 0, 0, 0, 0, 0, 0, 0, 0, 0, 2017, 0, 0, 0, 0, 0, 2021] = true := by decide +kernel
set_option maxRecDepth 100000 in
theorem z_ck_5 : z_pair 5 5206 1007 5204 5205 [0, 0, 0, 0, 0, 0, 0, 0, 0, 0, 0, 0, 0, 0, 0, 0, 0, 0, 0, 0, 5207] = true := by decide +kernel
set_option maxRecDepth 100000 in
theorem z_ck_6 : z_pair 6 5218 1007 5216 5217 [0, 0, 0, 0, 0, 0, 0, 0, 0, 4202, 0, 0, 0, 2017, 0, 0, 0, 5207, 0, 2021] = true := by decide +kernel
set_option maxRecDepth 100000 in
theorem z_ck_7 : z_pair 7 4209 1008 4207 4208 [0, 2077, 0, 2044, 0, 0, 0, 0, 0, 2044, 2077, 0, 0, 0, 0, 2033, 0, 2039, 0, 0, 4210, 4211, 0, 0, 2074, 0, 2081, 0, 0, 0, 0, 0, 0, 2081, 0, 4215, 0, 0, 0, 2036, 0, 4220, 0, 0, 0, 2074, 0, 0, 0, 0, 0, 2083, 0, 4215, 0, 0, 0, 2036, 0, 4220, 0, 0, 2076, 0, 0, 2072, 0, 0, 5015] = true := by decide +kernel
set_option maxRecDepth 100000 in
theorem z_ck_8 : z_pair 8 5031 1008 5029 5030 [0, 2033, 0, 0, 0, 0, 2039, 0, 0, 0, 2033, 0, 0, 0, 0, 2078, 0, 2044, 0, 0, 0, 0, 2044, 2078, 0, 0, 0, 0, 2033, 4211, 0, 0, 0, 2036, 0, 4220, 0, 0, 2079] = true := by decide +kernel
set_option maxRecDepth 100000 in
theorem z_ck_9 : z_pair 9 5172 1008 5170 5171 [0, 0, 0, 0, 4211, 0, 0, 0, 0, 2039, 0, 0, 0, 0, 0, 0, 0, 0, 2036, 0, 0, 0, 0, 0, 4228, 0, 0, 0, 0, 0, 0, 0, 0, 0, 0, 0, 0, 5173] = true := by decide +kernel
set_option maxRecDepth 100000 in
theorem z_ck_10 : z_pair 10 5176 1008 5175 51 [0, 4215, 0, 0, 0, 2076, 0, 0, 5015, 0, 0, 0, 0, 0, 0, 0, 5177, 0, 0, 0, 2019, 0, 0, 0, 0, 0, 2023, 0, 0, 0, 0, 0, 0, 0, 0, 0, 0, 2076, 0, 2019, 0, 0, 0, 0, 2076, 0, 2023, 0, 0, 0, 0, 5010, 5011, 0, 0, 0, 0, 0, 0, 0, 0, 0, 2036, 0, 0, 0, 0, 4220] = true := by decide +kernel
set_option maxRecDepth 100000 in
theorem z_ck_11 : z_pair 11 4214 1008 4213 27 [0, 0, 2082, 0, 0, 2084, 0, 0, 2083, 0, 0, 2081, 0, 0, 0, 0, 0, 0, 2079, 2079, 0, 4215] = true := by decide +kernel
set_option maxRecDepth 100000 in
theorem z_ck_12 : z_pair 12 4218 1008 4217 28 [0, 0, 2085, 0, 0, 2086, 0, 4219, 2087, 0, 0, 2088] = true := by decide +kernel
set_option maxRecDepth 100000 in
theorem z_ck_13 : z_pair 13 4223 1008 4222 29 [0, 0, 0, 0, 4224, 0, 0, 0, 0, 0, 0, 0, 0, 0, 0, 4229, 0, 0, 0, 0, 0, 0, 0, 0, 0, 0, 2084, 0, 0, 0, 0, 0, 2079, 0, 2080, 0, 0, 5000, 0, 0, 0, 2079, 0, 0, 0, 2084, 0, 0, 0, 0, 2081, 0, 0, 0, 0, 2081, 0, 0, 0, 0, 0, 0, 0, 0, 0, 0, 0, 0, 0, 0, 0, 0, 0, 0, 0, 0, 0, 0, 2081, 0, 0, 0, 0, 2080, 0, 0, 0, 0, 0, 0, 5006] = true := by decide +kernel
set_option maxRecDepth 100000 in
theorem z_ck_14 : z_pair 14 5009 1008 5008 33 [0, 2086, 0, 0, 2087, 0, 0, 2088, 0, 0, 2076, 0, 0, 0, 0, 0, 2085, 0, 0, 0, 0, 2085, 0, 0, 0, 0, 0, 0, 2029, 0, 0, 0, 0, 0, 0, 0, 0, 0, 0, 0, 0, 2076, 0, 0, 0, 5010, 5011, 0, 0, 0, 0, 0, 0, 0, 0, 0, 0, 0, 4220, 0, 0, 0, 0, 0, 2085, 0, 0, 0, 2071, 0, 0, 2085, 0, 0, 2086, 0, 0, 2087, 0, 0, 2088] = true := by decide +kernel
set_option maxRecDepth 100000 in
theorem z_ck_15 : z_pair 15 4227 1008 4226 30 [0, 0, 0, 0, 0, 0, 0, 0, 0, 0, 0, 0, 0, 0, 0, 0, 0, 2083, 0, 0, 0, 0, 2029, 0, 0, 0, 0, 0, 0, 4228, 0, 0, 0, 4228] = true := by decide +kernel
set_option maxRecDepth 100000 in
theorem z_ck_16 : z_pair 16 4232 1008 4231 31 [0, 2029, 0, 0, 0, 0, 0, 0, 2082, 0, 0, 2085, 2071, 0, 0, 2071, 0, 0, 0, 0, 0, 0, 0, 0, 0, 0, 0, 0, 0, 0, 0, 0, 2076, 0, 0, 4233, 2071, 0, 0, 0, 0, 0, 0, 0, 0, 0, 0, 0, 0, 0, 0, 0, 0, 0, 0, 2076, 0, 0, 0, 2076, 0, 0, 4237, 2071, 0, 0, 0, 0, 0, 0, 0, 0, 2081, 0, 0, 0, 0, 0, 0, 0, 2081] = true := by decide +kernel
set_option maxRecDepth 100000 in
theorem z_ck_17 : z_pair 17 4236 1008 4235 32 [0, 0, 0, 0, 2086, 0, 0, 0, 2087, 0, 0, 0, 0, 0, 0, 0, 2088, 0, 0, 0, 0, 0, 2087] = true := by decide +kernel
set_option maxRecDepth 100000 in
theorem z_ck_18 : z_pair 18 4239 1008 4238 0 [0, 0, 0, 2071] = true := by decide +kernel
set_option maxRecDepth 100000 in
theorem z_ck_19 : z_pair 19 5014 1008 5013 34 [0, 0, 0, 0, 0, 0, 0, 0, 0, 0, 2088, 0, 0, 0, 0, 0, 0, 0, 0, 0, 0, 0, 2088, 0, 0, 2088, 0, 0, 0, 2086, 0, 0, 0, 0, 0, 0, 0, 0, 0, 0, 0, 0, 0, 2086, 0, 0, 0, 0, 2086, 0, 0, 2087, 0, 0, 0, 0, 0, 0, 2087] = true := by decide +kernel
set_option maxRecDepth 100000 in
theorem z_ck_20 : z_pair 20 5043 1009 5041 5042 [0, 2135, 0, 2045, 0, 0, 0, 2136, 0, 0, 0, 2137, 0, 0, 0, 0, 0, 2045, 2135, 0, 0, 2136, 0, 0, 2137, 0, 0, 0, 0, 0, 0, 0, 5044, 0, 0, 0, 0, 0, 0, 0, 2027, 0, 0, 0, 0, 0, 0, 0, 0, 0, 0, 0, 0, 2133, 0, 0, 0, 0, 0, 0, 0, 0, 0, 0, 0, 0, 0, 0, 0, 0, 0, 0, 2134, 0, 0, 0, 0, 0, 0, 0, 0, 0, 0, 0, 5047, 0, 0, 0, 2131, 0, 0, 0, 0, 0, 0, 0, 0, 0, 0, 0, 0, 0, 0, 0, 2138, 0, 0, 2038, 0, 5050, 0, 0, 0, 2131] = true := by decide +kernel
set_option maxRecDepth 100000 in
theorem z_ck_21 : z_pair 21 5046 1009 5045 0 [0, 0, 0, 0, 0, 0, 0, 0, 2027, 0, 0, 0, 0, 0, 0, 0, 0, 0, 2027, 0, 0, 0, 0, 0, 0, 0, 0, 2027] = true := by decide +kernel
set_option maxRecDepth 100000 in
theorem z_ck_22 : z_pair 22 5049 1009 5048 0 [] = true := by decide +kernel
set_option maxRecDepth 100000 in
theorem z_ck_23 : z_pair 23 5153 1009 5151 5152 [0, 2135, 0, 2045, 0, 0, 0, 0, 0, 2045, 2135, 0, 0, 0, 2043, 0, 0, 0, 2138, 0, 0, 2131, 0, 0, 0, 0, 0, 0, 0, 0, 0, 0, 0, 0, 0, 0, 0, 0, 2133, 0, 0, 0, 0, 0, 0, 2134, 0, 0, 0, 0, 2027, 0, 0, 0, 0, 0, 0, 0, 0, 0, 0, 0, 0, 0, 0, 0, 0, 0, 2038, 0, 5050, 0, 0, 0, 2131] = true := by decide +kernel
set_option maxRecDepth 100000 in
theorem z_ck_24 : z_pair 24 5053 1009 5052 35 [0, 0, 0, 0, 0, 0, 0, 0, 0, 0, 0, 0, 0, 0, 0, 0, 0, 0, 0, 0, 0, 5054, 0, 0, 0, 0, 0, 0, 0, 0, 0, 0, 0, 0, 0, 0, 0, 0, 0, 0, 0, 5063] = true := by decide +kernel
set_option maxRecDepth 100000 in
theorem z_ck_25 : z_pair 25 5066 1009 5065 37 [0, 2129, 0, 0, 0, 0, 0, 0, 0, 0, 0, 0, 0, 0, 0, 0, 0, 0, 5050] = true := by decide +kernel
set_option maxRecDepth 100000 in
theorem z_ck_26 : z_pair 26 5057 1009 5056 36 [0, 2138, 0, 0, 0, 0, 0, 0, 0, 0, 0, 0, 0, 0, 0, 0, 2129, 0, 0, 0, 2134, 0, 0, 0, 0, 5058, 0, 2129, 0, 0, 0, 2133, 0, 0, 0, 0, 0, 0, 5058, 2128] = true := by decide +kernel
set_option maxRecDepth 100000 in
theorem z_ck_27 : z_pair 27 5060 1009 5059 0 [0, 0, 0, 0, 0, 0, 0, 0, 5061, 0, 0, 0, 0, 0, 5062] = true := by decide +kernel
set_option maxRecDepth 100000 in
theorem z_ck_28 : z_pair 28 3024 1006 3022 3023 [0, 0, 0, 0, 0, 1213, 0, 0, 0, 1212, 0, 1213, 0, 0, 0, 0, 0, 0, 0, 1213, 0, 0, 1213] = true := by decide +kernel
set_option maxRecDepth 100000 in
theorem z_ck_29 : z_pair 29 3036 1006 3034 3035 [0, 0, 1221, 0, 1221, 3037, 0, 0, 1215, 0, 0, 1217, 0, 0, 1219, 0, 0, 1226, 0, 3041, 0, 0, 0, 0, 0, 0, 0, 0, 0, 0, 1223, 0, 0, 0, 3107, 0, 0, 0, 0, 0, 1213] = true := by decide +kernel
set_option maxRecDepth 100000 in
theorem z_ck_30 : z_pair 30 3117 1006 3116 5 [0, 0, 1217, 0, 0, 1225, 1219] = true := by decide +kernel
set_option maxRecDepth 100000 in
theorem z_ck_31 : z_pair 31 3136 1006 3135 8 [0, 1223, 0, 0, 0, 0, 3114, 0, 0, 3041] = true := by decide +kernel
set_option maxRecDepth 100000 in
theorem z_ck_32 : z_pair 32 3110 1006 3109 4 [0, 1223, 0, 0, 3111, 0, 0, 0, 3114, 0, 0, 0, 0, 0, 0, 0, 0, 0, 0, 0, 0, 0, 1221, 0, 3118, 0, 0, 0, 3114, 0, 0, 1221, 1114, 0, 0, 0, 0, 3114, 0, 0, 3041, 0, 0, 0, 0, 3122, 0, 0, 0, 3133, 0, 0, 0, 0, 0, 0, 0, 1222, 0, 1221, 1112, 0, 0, 0, 3141, 0, 0, 0, 0, 1221, 0, 0, 3189, 0, 0, 3133] = true := by decide +kernel
set_option maxRecDepth 100000 in
theorem z_ck_33 : z_pair 33 3113 1006 3112 0 [] = true := by decide +kernel
set_option maxRecDepth 100000 in
theorem z_ck_34 : z_pair 34 3125 1006 3124 6 [0, 1224, 0, 0, 0, 3126, 0, 0, 0, 0, 0, 0, 0, 0, 0, 0, 0, 0, 0, 0, 0, 0, 0, 0, 3133, 0, 0, 0, 0, 1224, 0, 0, 0, 3126, 0, 0, 0, 0, 1221, 0, 0, 0, 3137] = true := by decide +kernel
set_option maxRecDepth 100000 in
theorem z_ck_35 : z_pair 35 3129 1006 3128 7 [0, 1223, 0, 0, 0, 0, 3114, 0, 0, 0, 0, 0, 0, 0, 0, 0, 0, 0, 0, 1224, 0, 0, 0, 1224, 0, 3130, 0, 0, 0, 3114, 0, 0, 3041] = true := by decide +kernel
set_option maxRecDepth 100000 in
theorem z_ck_36 : z_pair 36 3132 1006 3131 0 [] = true := by decide +kernel
set_option maxRecDepth 100000 in
theorem z_ck_37 : z_pair 37 3144 1006 3143 9 [0, 0, 3145, 0, 0, 0, 0, 0, 0, 0, 0, 0, 1223, 0, 0, 0, 1223, 0, 0, 0, 1223, 0, 0, 3041, 0, 0, 3145, 0, 0, 0, 0, 1221, 0, 0, 3153] = true := by decide +kernel
set_option maxRecDepth 100000 in
theorem z_ck_38 : z_pair 38 3148 1006 3147 10 [0, 0, 3149, 0, 0, 0, 0, 0, 0, 0, 0, 0, 1223, 0, 0, 0, 1223, 0, 0, 0, 1223, 0, 0, 3041, 0, 0, 3149, 0, 0, 0, 0, 1221, 0, 0, 3153] = true := by decide +kernel
set_option maxRecDepth 100000 in
theorem z_ck_39 : z_pair 39 3152 1006 3151 11 [0, 1223, 0, 0, 0, 0, 0, 1224, 0, 0, 0, 0, 3114, 0, 0, 1221, 0, 0, 1224, 3153, 0, 0, 3041, 0, 0, 0, 0, 0, 0, 0, 0, 0, 0, 3157, 0, 0, 0, 3114, 0, 0, 1221, 0, 0, 3153, 0, 0, 3041, 0, 0, 0, 0, 0, 0, 0, 0, 0, 0, 0, 0, 0, 0, 0, 0, 0, 0, 0, 0, 0, 0, 3161, 0, 0, 0, 3114] = true := by decide +kernel
set_option maxRecDepth 100000 in
theorem z_ck_40 : z_pair 40 3160 1006 3159 12 [0, 0, 0, 0, 0, 0, 0, 0, 0, 0, 1222] = true := by decide +kernel
set_option maxRecDepth 100000 in
theorem z_ck_41 : z_pair 41 3164 1006 3163 13 [0, 0, 0, 0, 0, 3114, 0, 0, 3041, 0, 0, 0, 0, 0, 3141, 0, 0, 0, 3133, 0, 0, 0, 0, 0, 0, 0, 0, 0, 0, 3165, 0, 0, 0, 3149, 0, 0, 0, 0, 1221, 0, 0, 0, 0, 0, 0, 0, 3153] = true := by decide +kernel
set_option maxRecDepth 100000 in
theorem z_ck_42 : z_pair 42 3168 1006 3167 14 [0, 0, 3169, 0, 0, 0, 3133, 0, 0, 0, 0, 1221, 0, 0, 3153, 0, 0, 0, 3141, 0, 0, 0, 3133, 0, 0, 0, 0, 1221, 0, 0, 3153, 0, 0, 1221, 0, 3185, 0, 0, 3141, 0, 0, 0, 3133, 0, 0, 0, 0, 1221, 0, 3185] = true := by decide +kernel
set_option maxRecDepth 100000 in
theorem z_ck_43 : z_pair 43 3172 1006 3171 15 [0, 0, 3173, 0, 0, 0, 0, 0, 0, 0, 0, 0, 1223, 0, 0, 0, 3041, 0, 0, 3173, 0, 0, 0, 0, 1221, 0, 0, 3153] = true := by decide +kernel
set_option maxRecDepth 100000 in
theorem z_ck_44 : z_pair 44 3176 1006 3175 16 [0, 0, 3177, 0, 0, 0, 0, 0, 0, 0, 0, 0, 1223, 0, 0, 0, 3041, 0, 0, 3177, 0, 0, 0, 0, 1221, 0, 0, 3153] = true := by decide +kernel
set_option maxRecDepth 100000 in
theorem z_ck_45 : z_pair 45 3180 1006 3179 17 [0, 1223, 0, 0, 0, 0, 0, 0, 3181, 0, 0, 0, 3141, 0, 0, 0, 0, 1223, 0, 0, 0, 0, 0, 0, 0, 0, 0, 3114, 0, 0, 3041, 0, 0, 3141, 0, 0, 0, 0, 1221, 0, 0, 3153] = true := by decide +kernel
set_option maxRecDepth 100000 in
theorem z_ck_46 : z_pair 46 3184 1006 3183 18 [0, 0, 0, 0, 0, 3114, 0, 0, 3041, 0, 0, 3177, 0, 0, 0, 0, 1221, 0, 0, 3153] = true := by decide +kernel
set_option maxRecDepth 100000 in
theorem z_ck_47 : z_pair 47 3044 1006 3043 0 [0, 1226, 0, 0, 0, 1213, 0, 0, 1212, 0, 0, 0, 0, 0, 1212, 0, 0, 0, 0, 0, 0, 1226, 0, 0, 1226, 0, 0, 0, 0, 1226, 1225, 0, 1226, 0, 1213, 0, 0, 0, 1213, 1225, 0, 0, 1223, 0, 0, 1212, 0, 1226, 0, 3045, 0, 0, 0, 3048, 1223, 0, 0, 1212, 0, 1226, 0, 3093, 0, 0, 0, 1223, 0, 0, 3096, 1224, 0, 0, 0, 0, 1212, 0, 1226, 0, 3103, 1223] = true := by decide +kernel
set_option maxRecDepth 100000 in
theorem z_ck_48 : z_pair 48 3047 1006 3046 0 [] = true := by decide +kernel
set_option maxRecDepth 100000 in
theorem z_ck_49 : z_pair 49 3095 1006 3094 0 [] = true := by decide +kernel
set_option maxRecDepth 100000 in
theorem z_ck_50 : z_pair 50 3051 1006 3050 1 [0, 1226, 0, 0, 0, 1213, 0, 0, 1212, 0, 0, 3045, 0, 0, 0, 1226, 0, 0, 1226, 0, 0, 0, 1226, 0, 1225, 0, 0, 0, 0, 0, 0, 0, 0, 0, 0, 0, 0, 0, 0, 0, 0, 0, 0, 0, 0, 0, 0, 0, 0, 1212, 0, 1225, 0, 0, 0, 0, 0, 0, 0, 3052, 0, 0, 0, 0, 0, 3053] = true := by decide +kernel
set_option maxRecDepth 100000 in
theorem z_ck_51 : z_pair 51 3099 1006 3098 2 [0, 0, 0, 1226, 0, 0, 0, 1213, 0, 0, 1212, 0, 0, 3093, 0, 0, 0, 0, 0, 0, 1212, 0, 0, 0, 0, 0, 3100, 0, 0, 0, 1226, 0, 0, 1226] = true := by decide +kernel
set_option maxRecDepth 100000 in
theorem z_ck_52 : z_pair 52 3106 1006 3105 3 [0, 0, 1226, 0, 0, 1226, 0, 1226, 0, 1213, 0, 0, 1212, 0, 1226, 0, 0, 0, 0, 0, 0, 0, 0, 0, 0, 0, 0, 0, 0, 0, 0, 0, 1226, 0, 0, 1226] = true := by decide +kernel
set_option maxRecDepth 100000 in
theorem z_ck_53 : z_pair 53 4062 1003 4060 4061 [0, 1041, 0, 0, 1041, 0, 0, 4063, 0, 1045, 0, 0, 1045, 0, 0, 4063, 0, 0, 1046, 1046, 0, 0, 1048, 1048, 0, 0, 1050, 1050, 0, 0, 1054, 1054, 0, 0, 1058, 1058] = true := by decide +kernel
set_option maxRecDepth 100000 in
theorem z_ck_54 : z_pair 54 4100 1003 4098 4099 [0, 1058, 0, 0, 0, 1058, 0, 0, 0, 0, 0, 0, 1058] = true := by decide +kernel
set_option maxRecDepth 100000 in
theorem z_ck_55 : z_pair 55 4069 1003 4067 4068 [0, 1046, 0, 0, 0, 1045, 0, 0, 1045, 0, 0, 4063, 0, 0, 1046, 0, 1045, 0, 1046, 0, 1054, 0, 0, 0, 0, 0, 0, 0, 0, 0, 0, 0, 0, 0, 0, 0, 1046, 0, 0, 1046] = true := by decide +kernel
set_option maxRecDepth 100000 in
theorem z_ck_56 : z_pair 56 4169 1003 4167 4168 [0, 0, 0, 0, 1046, 0, 0, 0, 0, 1045] = true := by decide +kernel
set_option maxRecDepth 100000 in
theorem z_ck_57 : z_pair 57 3222 1004 3220 3221 [0, 0, 0, 0, 0, 0, 0, 0, 0, 0, 3223, 0, 0, 0, 0, 0, 0, 0, 0, 0, 1087, 0, 0, 1088, 0, 0, 1086, 0, 0, 0, 1117, 0, 0, 1121, 0, 0, 0, 0, 1119, 0, 0, 1123, 0, 0, 0, 0, 0, 0, 0, 0, 0, 0, 0, 0, 0, 0, 0, 1104, 0, 0, 0, 0, 0, 0, 1104, 0, 0, 0, 0, 0, 0, 0, 0, 0, 0, 3224, 0, 0, 0, 0, 0, 0, 0, 0, 0, 0, 0, 0, 0, 0, 0, 0, 0, 3228, 4049, 0, 0, 0, 0, 0, 0, 0, 0, 0, 3224, 4024, 4025] = true := by decide +kernel
set_option maxRecDepth 100000 in
theorem z_ck_58 : z_pair 58 4052 1004 4051 24 [0, 1086, 0, 0, 0, 1085, 0, 1086, 4053, 4054, 0, 4024, 4025, 0, 0, 0, 1086, 0, 0, 1086] = true := by decide +kernel
set_option maxRecDepth 100000 in
theorem z_ck_59 : z_pair 59 3227 1004 3226 20 [0, 1086, 0, 0, 0, 0, 0, 1086, 0, 0, 1086, 0, 1085, 0, 1086] = true := by decide +kernel
set_option maxRecDepth 100000 in
theorem z_ck_60 : z_pair 60 3231 1004 3230 21 [0, 0, 0, 0, 0, 0, 0, 0, 0, 0, 0, 0, 0, 0, 3232, 0, 0, 3224, 0, 0, 0, 0, 0, 4006, 0, 0, 0, 4021, 0, 0, 0, 0, 0, 0, 0, 0, 0, 0, 0, 0, 3224, 0, 4032] = true := by decide +kernel
set_option maxRecDepth 100000 in
theorem z_ck_61 : z_pair 61 3235 1004 3234 22 [0, 0, 0, 1146, 1055, 0, 0, 1087, 0, 0, 1146, 1051, 0, 0, 3236, 4000, 0, 0, 0, 1087, 4006, 0, 0, 0, 0, 1150, 4013, 0, 0, 0, 1154, 4013, 4024, 0, 0, 0, 0, 1150, 4013, 0, 0, 0, 1154, 4013, 4025, 0, 0, 0, 1087, 4021, 0, 0, 1088, 0, 0, 0, 1087, 4028, 4000] = true := by decide +kernel
set_option maxRecDepth 100000 in
theorem z_ck_62 : z_pair 62 4023 1004 4022 0 [0, 0, 0, 0, 0, 0, 1146, 1043] = true := by decide +kernel
set_option maxRecDepth 100000 in
theorem z_ck_63 : z_pair 63 4016 1004 4015 23 [0, 0, 1087, 4017, 0, 0, 0, 0, 1087, 0, 4021] = true := by decide +kernel
set_option maxRecDepth 100000 in
theorem z_ck_64 : z_pair 64 4034 1004 4033 0 [0, 0, 0, 0, 0, 0, 0, 0, 0, 0, 0, 0, 0, 0, 4035, 0, 0, 0, 0, 0, 0, 0, 0, 0, 0, 0, 0, 4046] = true := by decide +kernel
set_option maxRecDepth 100000 in
theorem z_ck_65 : z_pair 65 4037 1004 4036 0 [4038, 4039, 0, 0, 0, 4040, 4043] = true := by decide +kernel
set_option maxRecDepth 100000 in
theorem z_ck_66 : z_pair 66 4048 1004 4047 0 [] = true := by decide +kernel
set_option maxRecDepth 100000 in
theorem z_ck_67 : z_pair 67 3040 1005 3038 3039 [0, 0, 1111, 0, 0, 1113, 0, 0, 1116, 0, 0, 1118, 0, 0, 1120, 0, 0, 1122] = true := by decide +kernel
set_option maxRecDepth 100000 in
theorem z_ck_68 : z_pair 68 6056 1005 6054 6055 [0, 1103, 0, 0, 1103, 0, 0, 6057, 0, 1105, 0, 0, 1105, 0, 0, 6057, 0, 1107, 0, 0, 1107, 0, 0, 6057, 0, 1109, 0, 0, 1109, 0, 0, 6057, 0, 0, 1111, 1111, 0, 0, 1113, 1113, 0, 0, 1116, 1116, 0, 0, 1118, 1118, 0, 0, 1120, 1120, 0, 0, 1122, 1122] = true := by decide +kernel
set_option maxRecDepth 100000 in
theorem z_ck_69 : z_pair 69 3121 1005 3119 3120 [0, 0, 0, 1118, 0, 1116, 0, 0, 0, 0, 0, 0, 1122, 0, 1120] = true := by decide +kernel
set_option maxRecDepth 100000 in
theorem z_ck_70 : z_pair 70 3156 1005 3154 3155 [0, 1111, 0, 0, 0, 0, 0, 1103, 0, 1111, 0, 0, 0, 0, 0, 0, 0, 0, 1111, 0, 0, 1111, 0, 1111] = true := by decide +kernel
set_option maxRecDepth 100000 in
theorem z_ck_71 : z_pair 71 3188 1005 3186 3187 [0, 0, 0, 0, 0, 0, 1103, 0, 0, 1111, 0, 0, 0, 1103] = true := by decide +kernel
set_option maxRecDepth 100000 in
theorem z_ck_72 : z_pair 72 3192 1005 3190 3191 [0, 0, 0, 0, 1116, 0, 0, 1111, 1118, 0, 0, 0, 1120, 0, 0, 1111, 1122, 0, 0, 0, 0, 3193] = true := by decide +kernel
set_option maxRecDepth 100000 in
theorem z_ck_73 : z_pair 73 3140 1005 3138 3139 [0, 1113, 0, 0, 0, 1105, 0, 1113, 0, 0, 0, 1107, 0, 1113, 0, 0, 0, 1109, 0, 1113, 0, 0, 0, 0, 1113, 0, 0, 1113] = true := by decide +kernel
set_option maxRecDepth 100000 in
theorem z_ck_74 : z_pair 74 5161 1011 5159 5160 [0, 2208, 0, 0, 0, 0, 0, 0, 0, 0, 5162, 0, 0, 0, 0, 0, 0, 0, 0, 0, 0, 0, 0, 0, 0, 0, 0, 2208, 0, 0, 0, 0, 0, 0, 0, 0, 5163, 0, 0, 0, 2026, 0, 0, 0, 0, 0, 0, 5164, 0, 0, 0, 0, 0, 2208, 0, 0, 0, 0, 0, 0, 0, 0, 2208] = true := by decide +kernel
set_option maxRecDepth 100000 in
theorem z_ck_75 : z_pair 75 5185 1011 5183 5184 [0, 0, 0, 0, 5186, 0, 0, 0, 0, 0, 0, 2042] = true := by decide +kernel
set_option maxRecDepth 100000 in
theorem z_ck_76 : z_pair 76 5189 1011 5188 52 [0, 0, 0, 0, 0, 0, 0, 5190, 0, 0, 0, 0, 0, 0, 0, 0, 0, 0, 0, 0, 0, 0, 0, 0, 0, 0, 0, 0, 0, 0, 0, 5190, 0, 0, 0, 0, 0, 5191, 0, 0, 0, 0, 0, 0, 0, 5195] = true := by decide +kernel
set_option maxRecDepth 100000 in
theorem z_ck_77 : z_pair 77 5198 1011 5197 54 [0, 2210, 0, 0, 0, 0, 0, 0, 0, 0, 0, 0, 0, 0, 0, 5186] = true := by decide +kernel
set_option maxRecDepth 100000 in
theorem z_ck_78 : z_pair 78 5194 1011 5193 53 [0, 2026, 0, 0, 5164, 0, 2026, 0, 0, 5164, 0, 0, 0, 0, 0, 0, 0, 0, 0, 2026, 0, 0, 0, 0, 0, 0, 0, 0, 0, 0, 0, 0, 0, 5190, 0, 0, 0, 2026, 0, 0, 0, 2210] = true := by decide +kernel
set_option maxRecDepth 100000 in
theorem z_ck_79 : z_pair 79 5226 1011 5224 5225 [0, 0, 0, 0, 0, 0, 2208, 0, 0, 0, 0, 0, 0, 0, 0, 0, 0, 0, 0, 0, 0, 2026, 0, 0, 0, 0, 0, 0, 0, 0, 0, 0, 0, 0, 2208, 0, 0, 0, 0, 0, 0, 0, 0, 0, 2208, 0, 0, 0, 0, 0, 0, 0, 0, 2208] = true := by decide +kernel
set_option maxRecDepth 100000 in
theorem z_ck_80 : z_pair 80 5238 1011 5236 5237 [0, 0, 0, 0, 5239, 0, 2209, 0, 0, 5162, 0, 0, 0, 0, 2209] = true := by decide +kernel
set_option maxRecDepth 100000 in
theorem z_ck_81 : z_pair 81 6015 1011 6013 6014 [0, 0, 0, 0, 5239, 0, 2209, 0, 0, 5162, 0, 0, 0, 0, 0, 0, 0, 0, 0, 0, 0, 0, 0, 0, 0, 0, 0, 0, 0, 6016] = true := by decide +kernel
set_option maxRecDepth 100000 in
theorem z_ck_82 : z_pair 82 6002 1011 6001 56 [0, 0, 0, 0, 0, 0, 2209, 0, 0, 0, 0, 0, 0, 5162, 0, 0, 0, 0, 0, 0, 0, 0, 0, 0, 0, 0, 0, 0, 0, 6003, 0, 0, 2020, 0, 0, 0, 0, 2024, 0, 0, 0, 0, 0, 0, 6004, 0, 0, 2209, 0, 0, 2209, 0, 0, 0, 2209, 0, 0, 0, 0, 5163, 0, 0, 2209, 0, 0, 2209, 0, 0, 0, 2209, 0, 0, 0, 0, 5163] = true := by decide +kernel
set_option maxRecDepth 100000 in
theorem z_ck_83 : z_pair 83 6006 1011 6005 0 [0, 0, 0, 0, 0, 0, 0, 6007] = true := by decide +kernel
set_option maxRecDepth 100000 in
theorem z_ck_84 : z_pair 84 6019 1011 6018 57 [0, 0, 0, 0, 0, 0, 2026, 0, 0, 0, 0, 0, 0, 0, 0, 0, 0, 0, 0, 0, 0, 2209, 0, 0, 0, 0, 0, 6004, 0, 0, 2209] = true := by decide +kernel
set_option maxRecDepth 100000 in
theorem z_ck_85 : z_pair 85 5074 1010 5072 5073 [0, 2177, 0, 2046, 0, 0, 0, 0, 0, 2046, 2177, 0, 0, 2169, 0, 2034, 0, 2034, 0, 0, 0, 0, 0, 2040, 0, 0, 0, 2167, 0, 0, 2169, 0, 0, 0, 2040, 0, 0, 0, 0, 0, 2040, 0, 2167, 0, 0, 0, 2167, 5075, 0, 0, 0, 2031, 5080] = true := by decide +kernel
set_option maxRecDepth 100000 in
theorem z_ck_86 : z_pair 86 5078 1010 5077 38 [0, 0, 2176, 0, 0, 0, 0, 0, 0, 2174, 0, 0, 0, 0, 2175, 0, 0, 2028, 0, 0, 5079] = true := by decide +kernel
set_option maxRecDepth 100000 in
theorem z_ck_87 : z_pair 87 5083 1010 5082 39 [0, 0, 0, 5084, 0, 0, 0, 0, 0, 0, 2169, 0, 0, 2169, 0, 0, 5089, 0, 0, 2018, 0, 0, 0, 0, 2022, 0, 0, 0, 0, 0, 0, 2034, 0, 0, 2175, 0, 0, 0, 0, 0, 2175, 0, 0, 0, 0, 0, 0, 2175, 0, 0, 0, 0, 0, 2174, 0, 0, 0, 0, 2174, 0, 0, 5099, 0, 0, 0, 5088, 0, 0, 0, 0, 0, 0, 0, 2176, 0, 0, 0, 0, 0, 0, 0, 0, 0, 0, 5100] = true := by decide +kernel
set_option maxRecDepth 100000 in
theorem z_ck_88 : z_pair 88 5103 1010 5102 43 [0, 2018, 0, 0, 0, 0, 2022, 0, 0, 0, 0, 0, 0, 0, 0, 0, 5104, 0, 0, 0, 5108, 0, 0, 0, 0, 5108, 0, 0, 0, 0, 0, 0, 0, 0, 0, 0, 5080, 0, 0, 0, 0, 0, 5112] = true := by decide +kernel
set_option maxRecDepth 100000 in
theorem z_ck_89 : z_pair 89 5107 1010 5106 44 [0, 2173, 0, 0, 0, 0, 0, 2176, 0, 0, 0, 0, 2176, 0, 2174, 0, 0, 0, 0, 0, 0, 0, 0, 0, 2174, 0, 0, 0, 0, 0, 0, 0, 0, 0, 2175, 0, 0, 0, 0, 0, 0, 0, 2175] = true := by decide +kernel
set_option maxRecDepth 100000 in
theorem z_ck_90 : z_pair 90 5115 1010 5114 46 [0, 0, 2176, 0, 0, 0, 0, 0, 0, 2176, 0, 2174, 0, 0, 0, 0, 0, 0, 0, 0, 0, 2174, 0, 0, 0, 0, 0, 0, 0, 0, 0, 2175, 0, 0, 0, 0, 0, 0, 0, 2175] = true := by decide +kernel
set_option maxRecDepth 100000 in
theorem z_ck_91 : z_pair 91 5111 1010 5110 45 [0, 2175, 0, 0, 0, 0, 2174, 0, 0, 0, 0, 0, 0, 0, 0, 0, 0, 0, 2034, 0, 0, 2176, 0, 0, 0, 0, 0, 0, 0, 0, 0, 0, 0, 0, 0, 0, 0, 0, 0, 0, 0, 0, 0, 0, 2034] = true := by decide +kernel
set_option maxRecDepth 100000 in
theorem z_ck_92 : z_pair 92 5087 1010 5086 40 [0, 0, 0, 0, 0, 0, 0, 0, 0, 0, 0, 0, 0, 0, 0, 0, 2175, 0, 2018, 0, 0, 0, 0, 2175, 0, 2022, 0, 0, 0, 5088] = true := by decide +kernel
set_option maxRecDepth 100000 in
theorem z_ck_93 : z_pair 93 5092 1010 5091 41 [0, 2169, 0, 0, 0, 0, 0, 5093, 0, 0, 0, 2173, 0, 0, 2163, 0, 0, 5098] = true := by decide +kernel
set_option maxRecDepth 100000 in
theorem z_ck_94 : z_pair 94 5096 1010 5095 42 [0, 0, 0, 0, 0, 0, 0, 5097, 0, 0, 2173, 0, 0, 0, 2163, 0, 0, 0, 0, 2173, 0, 0, 0, 2163] = true := by decide +kernel
set_option maxRecDepth 100000 in
theorem z_ck_95 : z_pair 95 5128 1010 5126 5127 [0, 2178, 0, 2046, 0, 0, 0, 0, 0, 2046, 2178, 0, 0, 0, 5075, 0, 0, 0, 5129, 0, 0, 0, 0, 5133, 0, 0, 0, 0, 2171, 0, 2173, 0, 0, 2165, 0, 0, 5098] = true := by decide +kernel
set_option maxRecDepth 100000 in
theorem z_ck_96 : z_pair 96 5132 1010 5131 47 [0, 0, 0, 0, 0, 0, 0, 5097, 0, 0, 2175, 0, 2018, 0, 0, 0, 0, 0, 0, 2175, 0, 2022] = true := by decide +kernel
set_option maxRecDepth 100000 in
theorem z_ck_97 : z_pair 97 5136 1010 5135 48 [0, 0, 0, 0, 0, 0, 0, 5097, 0, 0, 0, 0, 0, 0, 0, 0, 0, 0, 0, 0, 2034, 0, 0, 2176, 0, 0, 0, 0, 0, 0, 0, 0, 0, 5137] = true := by decide +kernel
set_option maxRecDepth 100000 in
theorem z_ck_98 : z_pair 98 5140 1010 5139 49 [0, 2018, 0, 0, 0, 0, 2022, 0, 0, 0, 0, 0, 0, 0, 0, 0, 5104, 0, 0, 0, 5141, 0, 0, 0, 0, 5141, 0, 0, 0, 0, 0, 0, 5133, 0, 0, 0, 0, 0, 0, 0, 0, 5112] = true := by decide +kernel
set_option maxRecDepth 100000 in
theorem z_ck_99 : z_pair 99 5144 1010 5143 50 [0, 2175, 0, 0, 0, 0, 0, 0, 0, 0, 0, 0, 0, 0, 0, 0, 0, 5145, 0, 0, 2175, 0, 0, 0, 0, 0, 0, 0, 0, 0, 0, 2174, 0, 0, 0, 2174] = true := by decide +kernel
set_option maxRecDepth 100000 in
theorem z_ck_100 : z_pair 100 6051 1002 6049 6050 [0, 1145, 0, 1145, 4059, 0, 1148, 0, 0, 1148, 0, 0, 6052, 0, 1152, 0, 0, 1152, 0, 0, 6052, 0, 1158, 0, 0, 1158, 0, 0, 6052, 0, 1160, 0, 0, 1160, 0, 0, 6052, 0, 0, 0, 0, 0, 0, 1156, 0, 0, 0, 1156, 0, 0, 6053, 0, 0, 0, 0, 0, 0, 0, 0, 1162, 0, 0, 0, 1162, 0, 0, 4059, 0, 0, 0, 0, 1164, 1164, 0, 0, 1166, 1166, 0, 0, 1168, 1168, 0, 0, 1170, 1170, 0, 0, 1172, 1172, 0, 0, 1174, 1174] = true := by decide +kernel
set_option maxRecDepth 100000 in
theorem z_ck_101 : z_pair 101 4020 1002 4018 4019 [0, 0, 0, 0, 1164] = true := by decide +kernel
set_option maxRecDepth 100000 in
theorem z_ck_102 : z_pair 102 3205 1002 3203 3204 [0, 0, 0, 0, 1166] = true := by decide +kernel
set_option maxRecDepth 100000 in
theorem z_ck_103 : z_pair 103 3239 1002 3237 3238 [0, 0, 1164, 0, 0, 0, 0, 1145, 1049] = true := by decide +kernel
set_option maxRecDepth 100000 in
theorem z_ck_104 : z_pair 104 4009 1002 4007 4008 [0, 0, 0, 0, 1164, 0, 0, 0, 0, 1145, 1042, 0, 1148, 0, 0, 0, 0, 1145, 1042, 0, 1152, 0, 0, 0, 0, 4010] = true := by decide +kernel
set_option maxRecDepth 100000 in
theorem z_ck_105 : z_pair 105 4031 1002 4029 4030 [0, 0, 0, 0, 0, 0, 1164, 0, 0, 1145, 1049, 0, 0, 0, 0, 0, 0, 0, 1148, 0, 0, 0, 0, 0, 0, 0, 1152, 0, 0, 0, 0, 0, 0, 0, 1152, 0, 0, 0, 0, 0, 0, 0, 1148] = true := by decide +kernel
set_option maxRecDepth 100000 in
theorem z_ck_106 : z_pair 106 3217 1002 3216 19 [0, 0, 1168, 3218, 0, 0, 1156, 0, 1168] = true := by decide +kernel
set_option maxRecDepth 100000 in
theorem z_ck_107 : z_pair 107 4144 1002 4142 4143 [0, 1163, 0, 0, 3214, 0, 0, 0, 3219] = true := by decide +kernel
set_option maxRecDepth 100000 in
theorem z_ck_108 : z_pair 108 6031 1002 6029 6030 [0, 0, 0, 0, 1170, 0, 0, 1163, 0, 0, 0, 0, 1158, 0, 0, 0, 3219, 0, 1160] = true := by decide +kernel
set_option maxRecDepth 100000 in
theorem z_ck_109 : z_pair 109 3016 1002 3014 3015 [0, 0, 0, 0, 0, 0, 0, 0, 0, 0, 0, 0, 0, 0, 1164, 0, 0, 0, 0, 0, 0, 0, 0, 1164, 0, 0, 1148, 0, 0, 0, 0, 0, 1152, 0, 0, 0, 0, 0, 1148, 0, 0, 0, 0, 0, 1152, 0, 0, 0, 0, 0, 0, 0, 0, 0, 1148, 0, 1164, 0, 0, 0, 1152, 0, 1164, 0, 0, 0, 0, 1164, 0, 0, 1164, 0, 1164] = true := by decide +kernel
set_option maxRecDepth 100000 in
theorem z_ck_110 : z_pair 110 4058 1002 4056 4057 [0, 1172, 0, 0, 0, 0, 1174, 0, 0, 0, 0, 1174, 0, 0, 1172, 0, 1162, 0, 1174, 0, 1172, 0, 0, 0, 0, 0, 1145, 4059, 0, 0, 1172, 0, 0, 1172] = true := by decide +kernel
set_option maxRecDepth 100000 in
theorem z_ck_111 : z_pair 111 4133 1002 4131 4132 [0, 1172, 0, 0, 0, 0, 0, 1172, 0, 0, 1172, 0, 1145, 0, 1162, 0, 1174, 0, 1172, 0, 0, 0, 0, 4059, 0, 1172] = true := by decide +kernel
set_option maxRecDepth 100000 in
theorem z_ck_112 : z_pair 112 3213 1002 3211 3212 [0, 0, 0, 0, 0, 0, 0, 0, 0, 0, 0, 1145, 1042, 0, 0, 0, 0, 0, 0, 0, 1163, 0, 0, 3214, 0, 0, 0, 3219, 0, 0, 1145, 1052, 0, 0, 0, 0, 0, 0, 0, 4055, 0, 1145, 0, 1052, 0, 0, 1052, 0, 1145, 1042, 0, 0, 0, 0, 1145, 0, 0, 0, 4066] = true := by decide +kernel
set_option maxRecDepth 100000 in
theorem z_ck_113 : z_pair 113 4077 1002 4075 4076 [0, 0, 4078, 0, 0, 0, 0, 0, 0, 4055, 0, 1145, 0, 1049, 0, 0, 0, 0, 1049, 0, 1145, 0, 0, 0, 4079, 0, 0, 0, 0, 4066] = true := by decide +kernel
set_option maxRecDepth 100000 in
theorem z_ck_114 : z_pair 114 4087 1002 4085 4086 [0, 0, 0, 0, 0, 0, 0, 1145, 1052, 0, 0, 4088, 0, 0, 0, 0, 0, 0, 4055, 0, 1145, 0, 1052, 0, 0, 1052] = true := by decide +kernel
set_option maxRecDepth 100000 in
theorem z_ck_115 : z_pair 115 4096 1002 4094 4095 [0, 0, 0, 4055, 0, 3214, 0, 0, 0, 0, 0, 0, 0, 1164, 0, 0, 1145, 1049, 0, 0, 0, 0, 0, 0, 0, 0, 0, 0, 0, 0, 1145, 4097, 0, 0, 0, 1163, 0, 0, 0, 0, 0, 3219, 0, 0, 0, 4101, 0, 0, 0, 0, 0, 0, 1145, 4088, 0, 1145, 1052, 0, 0, 4102, 1052, 0, 1145, 0, 0, 0, 4066, 0, 0, 0, 1145, 0, 1057, 0, 0, 1057] = true := by decide +kernel
set_option maxRecDepth 100000 in
theorem z_ck_116 : z_pair 116 4125 1002 4123 4124 [0, 0, 0, 0, 0, 0, 0, 0, 0, 0, 0, 0, 0, 0, 0, 0, 4112, 0, 0, 0, 0, 0, 0, 0, 0, 0, 0, 0, 0, 4113, 0, 0, 0, 0, 0, 0, 0, 0, 0, 4114, 0, 0, 0, 1145, 1057, 0, 0, 0, 0, 4115] = true := by decide +kernel
set_option maxRecDepth 100000 in
theorem z_ck_117 : z_pair 117 4110 1002 4108 4109 [0, 0, 0, 0, 0, 4111, 0, 0, 0, 0, 0, 0, 0, 0, 0, 0, 4112, 0, 0, 0, 0, 0, 0, 0, 0, 0, 4113, 0, 0, 0, 0, 4114, 0, 0, 0, 0, 1145, 1057, 0, 4102, 0, 0, 0, 0, 0, 0, 0, 0, 4115] = true := by decide +kernel
set_option maxRecDepth 100000 in
theorem z_ck_118 : z_pair 118 3012 1001 3010 3011 [0, 2218, 0, 0, 3013] = true := by decide +kernel
set_option maxRecDepth 100000 in
theorem z_ck_119 : z_pair 119 3020 1001 3018 3019 [0, 2221, 1214, 0, 0, 0, 0, 0, 0, 0, 2221, 0, 3021, 0, 2221, 0, 3021, 0, 2221, 0, 3021, 0, 2221, 0, 3021, 0, 2221, 0, 3021, 0, 2221, 1214] = true := by decide +kernel
set_option maxRecDepth 100000 in
theorem z_ck_120 : z_pair 120 3028 1001 3026 3027 [0, 0, 0, 0, 2221, 1214, 0, 0, 0, 0, 2221, 0, 1214] = true := by decide +kernel
set_option maxRecDepth 100000 in
theorem z_ck_121 : z_pair 121 3032 1001 3030 3031 [0, 2218, 1167, 0, 0, 0, 0, 0, 2221, 0, 2218, 1157, 0, 2218, 1167, 0, 3033, 0, 0, 0, 0, 2218, 0, 1167, 0, 0, 1167, 0, 2218, 1167] = true := by decide +kernel
set_option maxRecDepth 100000 in
theorem z_ck_122 : z_pair 122 3197 1001 3195 3196 [0, 2221, 1216, 0, 0, 0, 0, 0, 0, 0, 0, 0, 0, 0, 2221, 1218, 0, 0, 2221, 1220] = true := by decide +kernel
set_option maxRecDepth 100000 in
theorem z_ck_123 : z_pair 123 3201 1001 3199 3200 [0, 0, 0, 0, 2218, 0, 3202, 0, 0, 0, 0, 2218, 0, 1169] = true := by decide +kernel
set_option maxRecDepth 100000 in
theorem z_ck_124 : z_pair 124 3209 1001 3207 3208 [0, 2218, 0, 0, 0, 3210] = true := by decide +kernel
set_option maxRecDepth 100000 in
theorem z_ck_125 : z_pair 125 4073 1001 4071 4072 [0, 2218, 0, 0, 4074] = true := by decide +kernel
set_option maxRecDepth 100000 in
theorem z_ck_126 : z_pair 126 4083 1001 4081 4082 [0, 2218, 0, 0, 4084] = true := by decide +kernel
set_option maxRecDepth 100000 in
theorem z_ck_127 : z_pair 127 4092 1001 4090 4091 [0, 0, 0, 0, 0, 0, 0, 2218, 1147, 1056, 0, 0, 0, 0, 0, 0, 0, 0, 0, 0, 0, 0, 0, 0, 0, 2218, 0, 4093] = true := by decide +kernel
set_option maxRecDepth 100000 in
theorem z_ck_128 : z_pair 128 4106 1001 4104 4105 [0, 2218, 0, 3202, 0, 0, 0, 0, 2218, 1157, 0, 0, 0, 0, 0, 0, 0, 1115, 0, 0, 2218, 0, 1106, 0, 0, 0, 1108, 0, 0, 0, 1110, 0, 0, 4107] = true := by decide +kernel
set_option maxRecDepth 100000 in
theorem z_ck_129 : z_pair 129 4119 1001 4117 4118 [0, 0, 0, 0, 0, 0, 0, 0, 0, 0, 0, 0, 0, 0, 2218, 4120, 0, 2218, 1147, 0, 0, 0, 0, 0, 1059, 0, 0, 0, 0, 0, 0, 2218, 0, 2218, 1147, 4121, 4122, 0, 0, 0, 2218, 1147, 1056] = true := by decide +kernel
set_option maxRecDepth 100000 in
theorem z_ck_130 : z_pair 130 4129 1001 4127 4128 [0, 2218, 4130] = true := by decide +kernel
set_option maxRecDepth 100000 in
theorem z_ck_131 : z_pair 131 4137 1001 4135 4136 [0, 2218, 0, 4138, 0, 0, 0, 0, 0, 0, 2218, 1151, 0, 0, 0, 0, 2218, 1155, 0, 0, 0, 0, 2218, 0, 4139, 0, 0, 2218, 4140, 0, 0, 0, 0, 0, 0, 2218, 0, 0, 0, 4141] = true := by decide +kernel
set_option maxRecDepth 100000 in
theorem z_ck_132 : z_pair 132 4148 1001 4146 4147 [0, 0, 0, 0, 0, 0, 0, 0, 0, 0, 0, 0, 0, 0, 0, 2218, 1147, 1044, 0, 0, 0, 0, 2218, 0, 4149] = true := by decide +kernel
set_option maxRecDepth 100000 in
theorem z_ck_133 : z_pair 133 4153 1001 4151 4152 [0, 0, 0, 0, 0, 0, 0, 0, 0, 0, 0, 0, 0, 2218, 0, 0, 0, 4141] = true := by decide +kernel
set_option maxRecDepth 100000 in
theorem z_ck_134 : z_pair 134 4157 1001 4155 4156 [0, 0, 0, 2218, 1147, 1056, 0, 0, 2218, 1147, 1059, 0, 0, 2218, 1147, 1053, 0, 0, 2218, 4140, 0, 0, 4158] = true := by decide +kernel
set_option maxRecDepth 100000 in
theorem z_ck_135 : z_pair 135 4161 1001 4160 25 [0, 2218, 4140, 0, 0, 0, 0, 0, 0, 0, 0, 0, 0, 0, 0, 0, 0, 0, 0, 2218, 0, 4139] = true := by decide +kernel
set_option maxRecDepth 100000 in
theorem z_ck_136 : z_pair 136 4165 1001 4163 4164 [0, 0, 0, 0, 2218, 1147, 1047, 0, 0, 2218, 1147, 0, 0, 4166] = true := by decide +kernel
set_option maxRecDepth 100000 in
theorem z_ck_137 : z_pair 137 4173 1001 4171 4172 [0, 0, 0, 0, 0, 0, 0, 0, 0, 2220, 0, 2218, 1147, 4174, 0, 0, 0, 0, 0, 0, 2218, 1147, 1056, 0, 0, 0, 2218, 0, 4093, 0, 0, 0, 0, 2218, 1147, 1053, 0, 0, 2218, 1147, 0, 2220, 4174] = true := by decide +kernel
set_option maxRecDepth 100000 in
theorem z_ck_138 : z_pair 138 4178 1001 4176 4177 [0, 2218, 4140, 0, 0, 0, 0, 0, 0, 0, 0, 0, 0, 0, 0, 0, 2218, 0, 4139, 0, 0, 0, 0, 4179] = true := by decide +kernel
set_option maxRecDepth 100000 in
theorem z_ck_139 : z_pair 139 4182 1001 4181 26 [0, 2218, 0, 4139, 0, 0, 0, 0, 0, 0, 0, 0, 0, 0, 0, 0, 0, 0, 0, 2218, 0, 4139] = true := by decide +kernel
set_option maxRecDepth 100000 in
theorem z_ck_140 : z_pair 140 4186 1001 4184 4185 [0, 2218, 4140, 0, 0, 0, 0, 0, 0, 4187, 0, 0, 0, 0, 0, 0, 0, 0, 0, 0, 0, 0, 0, 0, 0, 0, 0, 0, 0, 2218, 0, 4139] = true := by decide +kernel
set_option maxRecDepth 100000 in
theorem z_ck_141 : z_pair 141 4191 1001 4189 4190 [0, 2218, 4140, 0, 0, 0, 0, 0, 0, 0, 0, 0, 0, 0, 0, 0, 0, 0, 4179] = true := by decide +kernel
set_option maxRecDepth 100000 in
theorem z_ck_142 : z_pair 142 4195 1001 4193 4194 [0, 0, 0, 0, 0, 0, 0, 0, 2222, 0, 2218, 4196, 0, 2223, 0, 2222, 4206, 0, 2223, 2075, 0, 2222, 2035, 0, 0, 2222, 0, 2223, 2073, 0, 5016] = true := by decide +kernel
set_option maxRecDepth 100000 in
theorem z_ck_143 : z_pair 143 5027 1001 5025 5026 [0, 2222, 0, 2218, 4196, 0, 2223, 0, 2222, 5028] = true := by decide +kernel
set_option maxRecDepth 100000 in
theorem z_ck_144 : z_pair 144 5035 1001 5033 5034 [0, 0, 0, 0, 0, 0, 0, 0, 0, 2222, 0, 2218, 4196, 0, 2223, 0, 2222, 4206, 0, 0, 0, 0, 2223, 2075, 0, 0, 2222, 0, 2223, 2073, 0, 5016] = true := by decide +kernel
set_option maxRecDepth 100000 in
theorem z_ck_145 : z_pair 145 5039 1001 5037 5038 [0, 0, 0, 0, 0, 0, 0, 0, 0, 0, 0, 0, 0, 0, 0, 0, 0, 0, 0, 2222, 0, 2218, 4196, 0, 2224, 0, 2222, 0, 0, 5040, 0, 0, 0, 0, 2224, 2132, 0, 0, 2222, 0, 2224, 2130, 0, 5016] = true := by decide +kernel
set_option maxRecDepth 100000 in
theorem z_ck_146 : z_pair 146 5070 1001 5068 5069 [0, 0, 0, 0, 0, 0, 0, 0, 0, 2222, 0, 2218, 4196, 0, 2226, 0, 2222, 5071, 0, 2226, 2170, 0, 0, 0, 0, 0, 0, 0, 0, 0, 2226, 2168, 0, 0, 2222, 0, 5116, 0, 0, 2226, 2164] = true := by decide +kernel
set_option maxRecDepth 100000 in
theorem z_ck_147 : z_pair 147 5120 1001 5118 5119 [0, 2222, 0, 2218, 4196, 0, 2226, 0, 2222, 5071, 0, 2226, 2170] = true := by decide +kernel
set_option maxRecDepth 100000 in
theorem z_ck_148 : z_pair 148 5124 1001 5122 5123 [0, 0, 0, 0, 0, 0, 0, 0, 2222, 0, 2218, 4196, 0, 2226, 0, 2222, 5125, 0, 2226, 2172, 0, 0, 2222, 0, 5116, 0, 0, 2226, 2166] = true := by decide +kernel
set_option maxRecDepth 100000 in
theorem z_ck_149 : z_pair 149 5149 1001 5147 5148 [0, 0, 0, 0, 0, 0, 0, 0, 0, 2222, 0, 2218, 4196, 0, 2225, 0, 2222, 5150, 0, 0, 0, 0, 2225, 2132, 0, 0, 2222, 0, 2225, 2130, 0, 5016] = true := by decide +kernel
set_option maxRecDepth 100000 in
theorem z_ck_150 : z_pair 150 5157 1001 5155 5156 [0, 2222, 0, 2218, 4196, 0, 2227, 0, 2222, 5158] = true := by decide +kernel
set_option maxRecDepth 100000 in
theorem z_ck_151 : z_pair 151 5168 1001 5166 5167 [0, 2222, 0, 2218, 4196, 0, 2223, 0, 2222, 0, 2218, 1147, 1044, 5169] = true := by decide +kernel
set_option maxRecDepth 100000 in
theorem z_ck_152 : z_pair 152 5181 1001 5179 5180 [0, 2222, 0, 2218, 4196, 0, 2227, 0, 2222, 5182] = true := by decide +kernel
set_option maxRecDepth 100000 in
theorem z_ck_153 : z_pair 153 5202 1001 5200 5201 [0, 2222, 0, 2218, 4196, 0, 2222, 5203] = true := by decide +kernel
set_option maxRecDepth 100000 in
theorem z_ck_154 : z_pair 154 5214 1001 5212 5213 [0, 2222, 0, 2218, 4196, 0, 2222, 5215] = true := by decide +kernel
set_option maxRecDepth 100000 in
theorem z_ck_155 : z_pair 155 5222 1001 5220 5221 [0, 0, 0, 0, 0, 0, 0, 0, 2222, 0, 2218, 4196, 0, 2227, 0, 2222, 0, 5223] = true := by decide +kernel
set_option maxRecDepth 100000 in
theorem z_ck_156 : z_pair 156 5230 1001 5228 5229 [0, 0, 0, 0, 0, 0, 0, 0, 2222, 0, 2218, 4196, 0, 2227, 0, 2222, 0, 5223] = true := by decide +kernel
set_option maxRecDepth 100000 in
theorem z_ck_157 : z_pair 157 5234 1001 5232 5233 [0, 0, 0, 0, 0, 0, 0, 0, 0, 0, 0, 0, 0, 2222, 0, 2218, 4196, 0, 2227, 0, 2222, 0, 2218, 1147, 1044, 0, 0, 5235] = true := by decide +kernel
set_option maxRecDepth 100000 in
theorem z_ck_158 : z_pair 158 6011 1001 6009 6010 [0, 0, 0, 0, 0, 0, 0, 0, 0, 0, 0, 0, 0, 0, 0, 0, 0, 0, 2222, 0, 2218, 4196, 0, 2227, 0, 2222, 0, 2218, 1147, 1044, 0, 0, 0, 6012] = true := by decide +kernel
set_option maxRecDepth 100000 in
theorem z_ck_159 : z_pair 159 6023 1001 6021 6022 [0, 0, 0, 0, 2218, 0, 1171, 0, 0, 0, 2218, 0, 4138, 0, 0, 0, 0, 0, 0, 0, 2218, 1171, 0, 0, 0, 0, 0, 2218, 1159, 0, 2218, 1171, 0, 0, 0, 2218, 1161, 0, 2218, 1171, 0, 0, 0, 2218, 0, 1171, 0, 0, 1171, 0, 2218, 1171] = true := by decide +kernel
set_option maxRecDepth 100000 in
theorem z_ck_160 : z_pair 160 6027 1001 6025 6026 [0, 0, 0, 0, 0, 0, 2218, 1167, 0, 0, 2218, 0, 2218, 1157, 0, 0, 6028] = true := by decide +kernel
set_option maxRecDepth 100000 in
theorem z_ck_161 : z_pair 161 6035 1001 6033 6034 [0, 2218, 4140, 0, 0, 0, 0, 0, 0, 0, 0, 0, 0, 0, 0, 0, 0, 0, 0, 0, 0, 2218, 0, 4139, 0, 2218, 0, 4139] = true := by decide +kernel
set_option maxRecDepth 100000 in
theorem z_ck_162 : z_pair 162 6039 1001 6037 6038 [0, 0, 0, 0, 0, 0, 0, 0, 2218, 1147, 1044, 0, 0, 0, 2218, 1147, 1044] = true := by decide +kernel
set_option maxRecDepth 100000 in
theorem z_ck_163 : z_pair 163 6043 1001 6041 6042 [0, 0, 0, 0, 0, 0, 0, 0, 0, 0, 0, 0, 0, 2218, 1147, 1047, 0, 0, 2218, 1147, 0, 0, 4166] = true := by decide +kernel
set_option maxRecDepth 100000 in
theorem z_ck_164 : z_pair 164 6047 1001 6045 6046 [0, 2219, 0, 2218, 6048, 0, 2218, 1147, 1056] = true := by decide +kernel
set_option maxRecDepth 100000 in
theorem z_ck_165 : z_pair 165 6061 1001 6059 6060 [0, 2218, 0, 2219, 6048, 0, 2218, 1147, 1056] = true := by decide +kernel
set_option maxRecDepth 100000 in
theorem z_ck_166 : z_pair 166 6065 1001 6063 6064 [0, 0, 0, 2218, 1165, 0, 0, 2218, 1167, 0, 0, 2218, 1169, 0, 0, 2218, 1173, 0, 0, 2218, 1171, 0, 0, 2221, 1214] = true := by decide +kernel
set_option maxRecDepth 100000 in
theorem z_ck_167 : z_pair 167 6074 1012 6073 0 [] = true := by decide +kernel
set_option maxRecDepth 100000 in
theorem z_ck_168 : z_pair 168 6201 1012 6200 0 [] = true := by decide +kernel
set_option maxRecDepth 100000 in
theorem z_ck_169 : z_pair 169 7201 1012 7200 0 [] = true := by decide +kernel
