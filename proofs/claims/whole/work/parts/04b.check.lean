set_option maxRecDepth 100000 in
theorem z_ck_170 : z_pair 170 7039 1012 7038 0 [] = true := by decide +kernel
set_option maxRecDepth 100000 in
theorem z_ck_171 : z_pair 171 7156 1012 7155 0 [] = true := by decide +kernel
set_option maxRecDepth 100000 in
theorem z_ck_172 : z_pair 172 7184 1012 7183 0 [] = true := by decide +kernel
set_option maxRecDepth 100000 in
theorem z_ck_173 : z_pair 173 7221 1012 7220 100 [0, 0, 0, 6075, 0, 0, 0, 0, 6199] = true := by decide +kernel
set_option maxRecDepth 100000 in
theorem z_ck_174 : z_pair 174 6198 1012 6197 0 [0, 0, 0, 6199] = true := by decide +kernel
set_option maxRecDepth 100000 in
theorem z_ck_175 : z_pair 175 7164 1012 7163 92 [0, 6075, 0, 0, 0, 7037] = true := by decide +kernel
set_option maxRecDepth 100000 in
theorem z_ck_176 : z_pair 176 6209 1012 6208 59 [0, 6075] = true := by decide +kernel
set_option maxRecDepth 100000 in
theorem z_ck_177 : z_pair 177 6213 1012 6212 60 [0, 6075] = true := by decide +kernel
set_option maxRecDepth 100000 in
theorem z_ck_178 : z_pair 178 6205 1012 6204 58 [0, 0, 6206, 0, 0, 0, 0, 6210] = true := by decide +kernel
set_option maxRecDepth 100000 in
theorem z_ck_179 : z_pair 179 7181 1012 7180 96 [0, 6075, 0, 0, 0, 6206, 0, 0, 0, 6075, 0, 0, 0, 6210, 0, 0, 7182] = true := by decide +kernel
set_option maxRecDepth 100000 in
theorem z_ck_180 : z_pair 180 7153 1012 7152 90 [0, 6075, 0, 0, 7154] = true := by decide +kernel
set_option maxRecDepth 100000 in
theorem z_ck_181 : z_pair 181 7160 1012 7159 91 [0, 0, 0, 0, 0, 0, 6075, 0, 0, 0, 0, 0, 7161, 0, 0, 0, 0, 6202, 0, 0, 0, 0, 0, 6206, 0, 0, 6210] = true := by decide +kernel
set_option maxRecDepth 100000 in
theorem z_ck_182 : z_pair 182 8124 1012 8123 117 [0, 0, 7157, 0, 7037] = true := by decide +kernel
set_option maxRecDepth 100000 in
theorem z_ck_183 : z_pair 183 6195 1012 6193 6194 [0, 6196, 0, 0, 6196, 0, 0, 0, 0, 0, 6075, 0, 0, 0, 0, 0, 0, 0, 0, 0, 0, 6075, 0, 0, 0, 0, 0, 0, 6202, 0, 0, 0, 0, 6202, 0, 0, 0, 0, 0, 0, 6075, 0, 0, 0, 0, 6075, 0, 0, 0, 0, 0, 0, 0, 0, 6075, 0, 0, 0, 0, 0, 0, 0, 0, 0, 0, 6075, 0, 0, 0, 0, 0, 0, 0, 0, 0, 6075] = true := by decide +kernel
set_option maxRecDepth 100000 in
theorem z_ck_184 : z_pair 184 6221 1012 6220 61 [0, 0, 0, 0, 0, 6078, 0, 6079, 0, 0, 0, 0, 0, 0, 0, 0, 6079, 0, 0, 6079] = true := by decide +kernel
set_option maxRecDepth 100000 in
theorem z_ck_185 : z_pair 185 6217 1012 6215 6216 [0, 6079, 0, 0, 0, 0, 0, 0, 0, 0, 6218, 0, 0, 6218, 0, 0, 6218, 0, 0, 6218, 0, 0, 6218, 0, 6079] = true := by decide +kernel
set_option maxRecDepth 100000 in
theorem z_ck_186 : z_pair 186 6225 1012 6223 6224 [0, 0, 0, 6079, 6199, 0, 0, 0, 0, 0, 6079] = true := by decide +kernel
set_option maxRecDepth 100000 in
theorem z_ck_187 : z_pair 187 7001 1012 7000 64 [0, 0, 6079, 0, 0, 6078] = true := by decide +kernel
set_option maxRecDepth 100000 in
theorem z_ck_188 : z_pair 188 7008 1012 7007 0 [] = true := by decide +kernel
set_option maxRecDepth 100000 in
theorem z_ck_189 : z_pair 189 7004 1012 7003 0 [] = true := by decide +kernel
set_option maxRecDepth 100000 in
theorem z_ck_190 : z_pair 190 7012 1012 7011 0 [] = true := by decide +kernel
set_option maxRecDepth 100000 in
theorem z_ck_191 : z_pair 191 6237 1012 6236 63 [0, 0, 6082, 6238, 0, 0, 0, 0, 6082, 6238, 0, 0, 0, 0, 6082, 0, 0, 6082, 0, 0, 0, 6082, 6083, 0, 0, 6082, 6238, 0, 0, 0, 0, 0, 6084, 0, 0, 7002, 0, 0, 0, 6084, 0, 0, 6085, 0, 0, 6082, 6238, 7002, 0, 0, 0, 6085, 7005, 0, 0, 6085, 0, 0, 0, 6085, 0, 0, 0, 6082, 6238, 0, 0, 0, 6085, 0, 0, 6082, 0, 0, 6082, 0, 0, 7006, 0, 0, 0, 6084, 0, 0, 6086, 0, 0, 6082, 6238, 7006, 0, 0, 0, 6086, 0, 0, 0, 0, 0, 7009, 0, 0, 6086, 0, 0, 0, 0, 6082, 6238, 0, 0, 6086, 0, 0, 6082, 0, 0, 6082, 0, 0, 0, 7010, 0, 0, 0, 0, 6084, 0, 0, 6082, 0, 0, 6082, 0, 0, 0, 0, 0, 0, 0, 0, 6082, 6238, 0, 0, 0, 0, 0, 0, 0, 0, 0, 6084, 0, 0, 6082, 0, 0, 6082] = true := by decide +kernel
set_option maxRecDepth 100000 in
theorem z_ck_192 : z_pair 192 7032 1012 7031 0 [] = true := by decide +kernel
set_option maxRecDepth 100000 in
theorem z_ck_193 : z_pair 193 7029 1012 7028 0 [0, 0, 7030] = true := by decide +kernel
set_option maxRecDepth 100000 in
theorem z_ck_194 : z_pair 194 7026 1012 7025 0 [0, 0, 0, 7027] = true := by decide +kernel
set_option maxRecDepth 100000 in
theorem z_ck_195 : z_pair 195 7023 1012 7022 0 [0, 0, 0, 0, 7024] = true := by decide +kernel
set_option maxRecDepth 100000 in
theorem z_ck_196 : z_pair 196 7109 1012 7108 0 [0, 0, 0, 0, 0, 7021] = true := by decide +kernel
set_option maxRecDepth 100000 in
theorem z_ck_197 : z_pair 197 7036 1012 7035 67 [0, 6084, 0, 0, 0, 6086] = true := by decide +kernel
set_option maxRecDepth 100000 in
theorem z_ck_198 : z_pair 198 7094 1012 7093 80 [0, 6077, 0, 6087, 0, 0, 0, 0, 6088, 0, 0, 0, 0, 0, 6077, 0, 6087, 0, 0, 0, 0, 6088, 0, 0, 0, 0, 0, 0, 0, 0, 6088, 0, 0, 6088] = true := by decide +kernel
set_option maxRecDepth 100000 in
theorem z_ck_199 : z_pair 199 7106 1012 7105 83 [0, 6084, 0, 0, 0, 0, 0, 6086, 0, 0, 0, 7027, 0, 0, 0, 0, 0, 6086, 0, 0, 0, 0, 0, 7021, 0, 0, 0, 0, 0, 6086, 0, 0, 0, 0, 7024, 0, 0, 0, 0, 0, 6086, 0, 0, 0, 0, 7024, 0, 0, 0, 0, 0, 6086, 0, 0, 0, 0, 7024, 0, 0, 0, 0, 0, 6086, 0, 0, 0, 7027, 0, 0, 0, 0, 0, 6086, 0, 0, 0, 0, 7024, 0, 0, 0, 0, 0, 6086, 0, 0, 0, 7027, 0, 0, 0, 0, 0, 6086, 0, 0, 0, 7027, 0, 0, 0, 0, 0, 6086, 0, 0, 0, 0, 0, 0, 7107] = true := by decide +kernel
set_option maxRecDepth 100000 in
theorem z_ck_200 : z_pair 200 7113 1012 7112 84 [0, 0, 0, 0, 0, 0, 0, 6089, 0, 0, 0, 6089] = true := by decide +kernel
set_option maxRecDepth 100000 in
theorem z_ck_201 : z_pair 201 7082 1012 7081 0 [] = true := by decide +kernel
set_option maxRecDepth 100000 in
theorem z_ck_202 : z_pair 202 7090 1012 7089 79 [0, 6091, 0, 0, 6090, 0, 6091, 0, 0, 0, 7080, 0, 0, 0, 0, 6091, 0, 0, 6091, 0, 0, 6090, 0, 6091, 0, 0, 7091, 0, 6090, 0, 6091, 0, 7080, 0, 0, 0, 6090, 0, 6091, 0, 0, 0, 0, 0, 6092, 0, 0, 6092] = true := by decide +kernel
set_option maxRecDepth 100000 in
theorem z_ck_203 : z_pair 203 7075 1012 7074 76 [0, 6091, 0, 0, 0, 0, 0, 0, 6090] = true := by decide +kernel
set_option maxRecDepth 100000 in
theorem z_ck_204 : z_pair 204 7071 1012 7070 75 [0, 7072, 0, 0, 0, 0, 6090, 0, 7072] = true := by decide +kernel
set_option maxRecDepth 100000 in
theorem z_ck_205 : z_pair 205 7079 1012 7078 77 [0, 6091, 0, 0, 0, 0, 0, 0, 6090, 0, 0, 7080, 0, 0, 0, 0, 0, 0, 0, 6090, 0, 0, 7080] = true := by decide +kernel
set_option maxRecDepth 100000 in
theorem z_ck_206 : z_pair 206 7121 1012 7120 86 [0, 7068, 0, 0, 0, 6090, 0, 6091, 0, 0, 0, 0, 0, 0, 6090, 0, 6091, 0, 0, 0, 7080, 0, 0, 6199] = true := by decide +kernel
set_option maxRecDepth 100000 in
theorem z_ck_207 : z_pair 207 7117 1012 7116 85 [0, 6092, 0, 0, 0, 0, 0, 0, 6092, 0, 0, 6092, 0, 6090, 0, 6091, 0, 0, 0, 0, 6091, 0, 0, 6091, 0, 6234] = true := by decide +kernel
set_option maxRecDepth 100000 in
theorem z_ck_208 : z_pair 208 7102 1012 7101 82 [0, 6084, 0, 0, 0, 6085, 0, 0, 0, 0, 0, 7103, 0, 0, 0, 0, 0, 7110, 0, 0, 0, 0, 6084, 0, 0, 0, 0, 0, 0, 6084, 0, 0, 0, 0, 0, 0, 6084, 0, 0, 0, 6085, 0, 0, 7091, 0, 6234, 0, 0, 6093, 0, 0, 7087, 0, 0, 0, 6084, 0, 0, 0, 0, 7114, 0, 0, 6084, 0, 0, 0, 0, 7114, 0, 0, 0, 0, 0, 0, 7024, 7033, 0, 0, 0, 7114, 0, 0, 0, 0, 0, 0, 7024, 7033, 0, 0, 0, 7114, 0, 0, 0, 0, 7030, 7033, 0, 0, 0, 7114, 0, 0, 0, 0, 0, 7027, 7033, 0, 0, 7118, 0, 0, 0, 7114] = true := by decide +kernel
set_option maxRecDepth 100000 in
theorem z_ck_209 : z_pair 209 7086 1012 7085 78 [0, 6084, 0, 0, 0, 0, 0, 6084, 0, 0, 0, 0, 0, 6084, 0, 0, 0, 0, 0, 6084, 0, 0, 0, 0, 0, 6084, 0, 0, 0, 0, 0, 6084] = true := by decide +kernel
set_option maxRecDepth 100000 in
theorem z_ck_210 : z_pair 210 7067 1012 7066 74 [0, 6084, 0, 0, 0, 0, 0, 6084, 0, 0, 0, 0, 0, 6084, 0, 0, 0, 0, 0, 6084, 0, 0, 0, 0, 0, 7068, 0, 0, 0, 0, 0, 7076, 0, 0, 7083, 0, 0, 0, 0, 0, 7027, 7033, 0, 0, 0, 0, 0, 0, 7030, 7033] = true := by decide +kernel
set_option maxRecDepth 100000 in
theorem z_ck_211 : z_pair 211 7098 1012 7097 81 [0, 0, 0, 6084, 0, 0, 0, 0, 0, 0, 0, 0, 0, 0, 0, 7024, 7033, 0, 0, 7076, 0, 0, 0, 0, 0, 0, 0, 0, 0, 0, 7024, 7033, 0, 0, 0, 0, 0, 0, 0, 0, 0, 7027, 7033] = true := by decide +kernel
set_option maxRecDepth 100000 in
theorem z_ck_212 : z_pair 212 7063 1012 7062 73 [0, 7064, 0, 0, 0, 0, 0, 7080, 0, 0, 0, 0, 0, 7080, 7087, 0, 6090, 0, 6091, 0, 0, 0, 0, 6091, 0, 0, 6091, 0, 0, 6093, 0, 6234, 0, 0, 0, 7068, 0, 0, 0, 7095, 0, 0, 0, 0, 0, 0, 0, 7087, 0, 6234, 0, 0, 0, 6090, 0, 7072, 0, 0, 0, 0, 6093, 0, 0, 0, 0, 6092, 0, 0, 6092, 0, 0, 6091, 0, 0, 6091, 0, 0, 0, 0, 0, 0, 7091, 0, 0, 7087] = true := by decide +kernel
set_option maxRecDepth 100000 in
theorem z_ck_213 : z_pair 213 7059 1012 7058 72 [0, 0, 6091, 0, 0, 6092, 0, 0, 6093, 0, 6093, 0, 0, 7060, 0, 0, 0, 7068, 0, 0, 0, 0, 0, 7087, 0, 0, 0, 7099] = true := by decide +kernel
set_option maxRecDepth 100000 in
theorem z_ck_214 : z_pair 214 7051 1012 7050 70 [0, 6084, 0, 0, 0, 0, 0, 6085, 0, 0, 6199, 0, 0, 0, 0, 6077, 0, 0, 6085, 0, 0, 6234] = true := by decide +kernel
set_option maxRecDepth 100000 in
theorem z_ck_215 : z_pair 215 7055 1012 7054 71 [0, 6077, 0, 0, 0, 0, 6088, 0, 0, 7056, 0, 0, 6077, 0, 0, 0, 0, 6088] = true := by decide +kernel
set_option maxRecDepth 100000 in
theorem z_ck_216 : z_pair 216 7047 1012 7046 69 [0, 0, 0, 0, 0, 0, 7048, 0, 0, 0, 0, 0, 0, 0, 7033, 0, 0, 0, 0, 6234, 0, 0, 0, 0, 0, 0, 7048] = true := by decide +kernel
set_option maxRecDepth 100000 in
theorem z_ck_217 : z_pair 217 7043 1012 7042 68 [0, 0, 0, 0, 0, 0, 0, 7030, 7044, 0, 0, 0, 0, 0, 0, 7030, 7044, 0, 0, 0, 0, 0, 0, 0, 7048, 0, 0, 0, 0, 0, 0, 0, 7048, 0, 0, 0, 0, 0, 0, 0, 7048, 0, 0, 0, 7052] = true := by decide +kernel
set_option maxRecDepth 100000 in
theorem z_ck_218 : z_pair 218 7020 1012 7019 66 [0, 0, 0, 0, 0, 0, 7021, 7033, 0, 0, 0, 0, 0, 0, 0, 0, 0, 7021, 7033, 0, 0, 0, 0, 0, 0, 0, 7027, 7033, 0, 0, 0, 0, 0, 0, 0, 0, 0, 7021, 7033, 0, 0, 0, 0, 0, 0, 0, 0, 7024, 7033, 0, 0, 0, 0, 0, 0, 0, 0, 0, 7021, 7033, 0, 0, 0, 0, 0, 0, 0, 7027, 7033] = true := by decide +kernel
set_option maxRecDepth 100000 in
theorem z_ck_219 : z_pair 219 7016 1012 7015 65 [0, 7017, 0, 0, 0, 0, 0, 0, 0, 0, 0, 6094, 0, 7037, 0, 0, 0, 0, 6077, 0, 6087, 0, 0, 0, 0, 0, 0, 0, 0, 0, 0, 0, 0, 6094, 0, 0, 0, 0, 6094, 0, 0, 6089, 0, 6234, 0, 6087, 0, 0, 0, 0, 0, 0, 0, 0, 6077, 0, 0, 0, 0, 0, 0, 7040, 0, 0, 0, 0, 0, 0, 6077, 0, 6087, 0, 0, 0, 0, 0, 0, 6084, 0, 0, 0, 0, 0, 6234] = true := by decide +kernel
set_option maxRecDepth 100000 in
theorem z_ck_220 : z_pair 220 6233 1012 6232 62 [0, 0, 0, 6075, 0, 0, 0, 6087, 0, 6077, 0, 6087, 0, 0, 0, 0, 6088, 0, 0, 6094, 0, 0, 6082, 0, 6234, 0, 6084, 0, 0, 7013] = true := by decide +kernel
set_option maxRecDepth 100000 in
theorem z_ck_221 : z_pair 221 6229 1012 6227 6228 [0, 6075, 0, 0, 0, 0, 0, 0, 0, 0, 6230, 6080, 0, 0, 6080, 0, 0, 0, 0, 6083, 6081, 0, 0, 6079, 0, 6080, 0, 0, 0, 0, 6075, 0, 0, 0, 0, 0, 0, 0, 6075] = true := by decide +kernel
set_option maxRecDepth 100000 in
theorem z_ck_222 : z_pair 222 7125 1012 7123 7124 [0, 0, 0, 6080, 0, 0, 0, 0, 0, 6081] = true := by decide +kernel
set_option maxRecDepth 100000 in
theorem z_ck_223 : z_pair 223 7129 1012 7127 7128 [0, 0, 0, 6075, 0, 0, 0, 0, 6199, 0, 0, 0, 0, 6075] = true := by decide +kernel
set_option maxRecDepth 100000 in
theorem z_ck_224 : z_pair 224 7190 1012 7189 0 [0, 7191, 0, 0, 7191, 0, 0, 7192, 0, 0, 7192] = true := by decide +kernel
set_option maxRecDepth 100000 in
theorem z_ck_225 : z_pair 225 7187 1012 7186 0 [0, 0, 0, 0, 0, 7188, 0, 0, 0, 0, 7188, 0, 0, 0, 0, 7188, 0, 0, 0, 0, 0, 0, 0, 0, 0, 0, 7188] = true := by decide +kernel
set_option maxRecDepth 100000 in
theorem z_ck_226 : z_pair 226 7195 1012 7194 0 [] = true := by decide +kernel
set_option maxRecDepth 100000 in
theorem z_ck_227 : z_pair 227 7176 1012 7175 95 [0, 0, 0, 0, 0, 0, 0, 0, 0, 0, 0, 0, 0, 0, 7177, 0, 0, 0, 6075, 0, 0, 0, 0, 0, 0, 0, 0, 0, 0, 0, 0, 0, 0, 0, 6075, 0, 0, 0, 0, 0, 0, 0, 0, 7178] = true := by decide +kernel
set_option maxRecDepth 100000 in
theorem z_ck_228 : z_pair 228 7198 1012 7197 0 [] = true := by decide +kernel
set_option maxRecDepth 100000 in
theorem z_ck_229 : z_pair 229 7172 1012 7171 94 [0, 0, 0, 0, 0, 0, 0, 0, 0, 0, 0, 0, 0, 0, 0, 0, 0, 0, 0, 0, 0, 6077, 0, 0, 0, 0, 0, 0, 0, 6077, 0, 0, 0, 0, 0, 0, 6077, 0, 0, 0, 0, 0, 0, 0, 0, 6077, 0, 0, 0, 0, 0, 0, 0, 0, 0, 0, 0, 0, 0, 6096, 0, 0, 0, 0, 0, 0, 0, 6095, 0, 0, 0, 0, 0, 0, 0, 0, 0, 0, 0, 0, 6097, 0, 0, 0, 0, 6096, 0, 0, 0, 0, 6096, 0, 0, 0, 0, 0, 0, 0, 0, 6096, 0, 0, 0, 0, 0, 0, 6096, 0, 0, 0, 0, 7173, 0, 0, 0, 0, 0, 0, 0, 6096, 0, 0, 0, 0, 0, 6096, 0, 0, 0, 0, 0, 6096, 0, 0, 7185, 0, 0, 0, 0, 0, 0, 0, 6097, 0, 0, 0, 6096, 0, 0, 0, 6096, 0, 0, 0, 0, 7193, 0, 0, 0, 0, 0, 0, 0, 6097, 0, 0, 0, 0, 6097, 0, 0, 0, 0, 0, 0, 0, 0, 0, 0, 0, 0, 6097, 0, 0, 0, 0, 0, 6097, 0, 0, 0, 0, 0, 6097, 0, 0, 7196, 0, 0, 0, 0, 6096] = true := by decide +kernel
set_option maxRecDepth 100000 in
theorem z_ck_230 : z_pair 230 7168 1012 7167 93 [0, 0, 0, 0, 0, 0, 6077, 0, 0, 0, 0, 0, 0, 6077, 0, 0, 0, 0, 0, 0, 0, 0, 0, 0, 0, 0, 0, 0, 0, 7169, 0, 0, 7199] = true := by decide +kernel
set_option maxRecDepth 100000 in
theorem z_ck_231 : z_pair 231 7149 1012 7148 89 [0, 6095, 0, 0, 6075, 0, 0, 0, 0, 6095, 0, 0, 0, 0, 6095, 0, 0, 6075, 0, 0, 0, 0, 6095, 0, 0, 7150] = true := by decide +kernel
set_option maxRecDepth 100000 in
theorem z_ck_232 : z_pair 232 8020 1012 8019 107 [0, 0, 7146, 0, 6075, 0, 0, 0, 6206, 0, 0, 0, 0, 6075, 0, 0, 0, 6210, 0, 0, 0, 0, 6095, 0, 0, 0, 7178, 0, 0, 6095, 0, 0, 0, 0, 0, 0, 0, 0, 0, 6095, 0, 0, 0, 0, 0, 0, 0, 0, 0, 0, 0, 0, 0, 7165] = true := by decide +kernel
set_option maxRecDepth 100000 in
theorem z_ck_233 : z_pair 233 7145 1012 7144 88 [0, 0, 7146, 0, 6095, 0, 0, 6075, 0, 0, 0, 0, 0, 0, 6095, 0, 0, 0, 0, 6095, 0, 0, 0, 7157, 7154, 0, 0, 0, 6075, 0, 0, 0, 0, 0, 7165] = true := by decide +kernel
set_option maxRecDepth 100000 in
theorem z_ck_234 : z_pair 234 7213 1012 7212 99 [0, 6098, 0, 0, 0, 6075, 0, 0, 0, 0, 0, 0, 0, 0, 0, 0, 6075, 0, 0, 0, 0, 0, 0, 6075, 0, 0, 0, 0, 0, 0, 0, 0, 6075, 0, 0, 0, 0, 0, 0, 0, 6075, 0, 0, 6075, 0, 0, 0, 0, 6075, 0, 0, 0, 0, 0, 0, 0, 0, 0, 0, 0, 0, 0, 0, 0, 0, 6075] = true := by decide +kernel
set_option maxRecDepth 100000 in
theorem z_ck_235 : z_pair 235 8009 1012 8008 105 [0, 6075, 0, 0, 0, 0, 0, 0, 8010] = true := by decide +kernel
set_option maxRecDepth 100000 in
theorem z_ck_236 : z_pair 236 8013 1012 8012 106 [0, 6075, 0, 0, 6075, 0, 0, 0, 8014, 0, 8015, 0, 8016] = true := by decide +kernel
set_option maxRecDepth 100000 in
theorem z_ck_237 : z_pair 237 7141 1012 7140 87 [0, 6196, 0, 0, 0, 0, 6199, 0, 0, 6075, 0, 0, 0, 0, 0, 0, 0, 6075, 0, 0, 0, 0, 0, 7142] = true := by decide +kernel
set_option maxRecDepth 100000 in
theorem z_ck_238 : z_pair 238 7209 1012 7208 98 [0, 0, 0, 7142, 0, 0, 6075, 0, 0, 0, 0, 0, 0, 0, 6075, 0, 0, 0, 0, 0, 0, 0, 0, 0, 7210] = true := by decide +kernel
set_option maxRecDepth 100000 in
theorem z_ck_239 : z_pair 239 7225 1012 7224 101 [0, 6075, 0, 0, 0, 0, 0, 0, 0, 0, 0, 0, 0, 0, 0, 7161, 0, 0, 0, 0, 7210] = true := by decide +kernel
set_option maxRecDepth 100000 in
theorem z_ck_240 : z_pair 240 7233 1012 7232 102 [0, 0, 0, 6199, 0, 0, 6075, 0, 0, 0, 0, 7005] = true := by decide +kernel
set_option maxRecDepth 100000 in
theorem z_ck_241 : z_pair 241 8005 1012 8004 104 [0, 0, 0, 0, 6075, 0, 0, 0, 0, 0, 7161, 0, 0, 0, 8006, 0, 0, 6075, 0, 0, 0, 8017, 0, 0, 0, 6075, 0, 0, 6075, 0, 0, 0, 0, 7178, 0, 0, 0, 7005, 7199, 0, 0, 0, 6099, 0, 0, 7178, 0, 6099, 0, 0, 0, 0, 0, 7178, 7210, 0, 0, 0, 6075] = true := by decide +kernel
set_option maxRecDepth 100000 in
theorem z_ck_242 : z_pair 242 7205 1012 7204 97 [0, 6075, 0, 0, 0, 0, 0, 0, 0, 0, 0, 0, 6075, 0, 0, 0, 0, 6075, 0, 0, 0, 0, 0, 0, 0, 0, 6075, 0, 0, 0, 0, 0, 0, 0, 0, 0, 6075, 0, 0, 0, 0, 0, 0, 6075, 0, 0, 6075, 0, 0, 0, 0, 0, 0, 0, 0, 0, 6075, 0, 0, 0, 0, 0, 0, 6075, 0, 0, 0, 0, 0, 0, 0, 0, 0, 0, 0, 0, 0, 6075, 0, 0, 0, 0, 0, 0, 0, 0, 6075, 0, 0, 0, 0, 0, 0, 0, 0, 6075] = true := by decide +kernel
set_option maxRecDepth 100000 in
theorem z_ck_243 : z_pair 243 7133 1012 7131 7132 [0, 6075, 0, 0, 0, 0, 0, 0, 6075, 0, 0, 0, 0, 0, 0, 0, 0, 0, 6075, 0, 0, 0, 0, 0, 0, 0, 0, 0, 0, 0, 6075, 0, 0, 0, 0, 6075, 0, 0, 0, 0, 0, 0, 0, 0, 0, 0, 6075, 0, 0, 0, 0, 0, 6075, 0, 0, 0, 0, 6075, 0, 0, 0, 0, 0, 0, 0, 0, 0, 0, 0, 0, 0, 0, 0, 0, 6075, 0, 0, 0, 0, 6075, 0, 0, 0, 0, 0, 0, 0, 0, 0, 0, 0, 0, 6075] = true := by decide +kernel
set_option maxRecDepth 100000 in
theorem z_ck_244 : z_pair 244 7137 1012 7135 7136 [0, 0, 0, 7138, 0, 0, 0, 0, 7202, 0, 0, 0, 7206] = true := by decide +kernel
set_option maxRecDepth 100000 in
theorem z_ck_245 : z_pair 245 7217 1012 7215 7216 [0, 0, 7218, 0, 0, 0, 0, 7202, 0, 0, 7222] = true := by decide +kernel
set_option maxRecDepth 100000 in
theorem z_ck_246 : z_pair 246 7229 1012 7227 7228 [0, 0, 7230, 0, 0, 0, 0, 7202, 0, 6075] = true := by decide +kernel
set_option maxRecDepth 100000 in
theorem z_ck_247 : z_pair 247 8001 1012 8000 103 [0, 0, 6099, 0, 0, 0, 0, 0, 0, 6075, 0, 0, 0, 0, 0, 0, 0, 7202, 0, 8002] = true := by decide +kernel
set_option maxRecDepth 100000 in
theorem z_ck_248 : z_pair 248 7237 1012 7235 7236 [0, 0, 0, 6199, 0, 0, 6075, 0, 0, 0, 0, 0, 0, 0, 0, 7238, 0, 0, 6099] = true := by decide +kernel
set_option maxRecDepth 100000 in
theorem z_ck_249 : z_pair 249 8028 1012 8027 108 [0, 6077, 0, 0, 0, 0, 0, 0, 6077, 0, 0, 0, 0, 0, 0, 6077, 0, 0, 0, 0, 0, 0, 8029, 0, 0, 0, 0, 0, 0, 0, 0, 8030, 0, 0, 0, 0, 0, 0, 0, 8031, 0, 0, 0, 8032, 0, 0, 0, 7238] = true := by decide +kernel
set_option maxRecDepth 100000 in
theorem z_ck_250 : z_pair 250 8024 1012 8022 8023 [0, 0, 0, 6075, 0, 0, 0, 0, 6199, 0, 0, 0, 0, 0, 0, 0, 6077, 0, 0, 0, 0, 0, 0, 0, 0, 0, 0, 0, 0, 0, 0, 0, 8025] = true := by decide +kernel
set_option maxRecDepth 100000 in
theorem z_ck_251 : z_pair 251 8040 1012 8039 109 [0, 0, 0, 0, 0, 0, 0, 0, 0, 0, 0, 0, 0, 0, 0, 0, 0, 0, 0, 0, 0, 0, 0, 0, 0, 0, 0, 0, 0, 7138, 0, 0, 0, 0, 0, 0, 7206, 0, 0, 0, 0, 0, 0, 0, 0, 0, 7218, 0, 0, 0, 7222, 0, 0, 0, 7230, 0, 0, 6075, 0, 0, 0, 0, 0, 0, 0, 0, 6075, 0, 0, 0, 0, 0, 8002] = true := by decide +kernel
set_option maxRecDepth 100000 in
theorem z_ck_252 : z_pair 252 8036 1012 8034 8035 [0, 0, 0, 6199, 0, 0, 0, 0, 6199, 0, 0, 0, 0, 7202, 0, 6075, 0, 0, 0, 0, 0, 0, 0, 0, 0, 0, 0, 0, 0, 6075, 0, 0, 0, 0, 8010, 0, 0, 8037, 0, 0, 0, 6075] = true := by decide +kernel
set_option maxRecDepth 100000 in
theorem z_ck_253 : z_pair 253 8044 1012 8042 8043 [0, 0, 7218, 0, 0, 0, 0, 0, 0, 0, 6206, 0, 0, 0, 6210, 0, 0, 0, 7178, 0, 0, 0, 7161, 0, 0, 0, 0, 0, 0, 0, 6075, 0, 0, 0, 8017] = true := by decide +kernel
set_option maxRecDepth 100000 in
theorem z_ck_254 : z_pair 254 8048 1012 8046 8047 [0, 6196, 0, 0, 0, 0, 0, 0, 6075, 0, 0, 0, 0, 0, 0, 0, 0, 0, 0, 7157] = true := by decide +kernel
set_option maxRecDepth 100000 in
theorem z_ck_255 : z_pair 255 8052 1012 8050 8051 [0, 6196, 0, 0, 0, 0, 6199, 0, 0, 0, 0, 7142] = true := by decide +kernel
set_option maxRecDepth 100000 in
theorem z_ck_256 : z_pair 256 8056 1012 8054 8055 [0, 0, 0, 6199, 0, 0, 6075, 0, 0, 0, 0, 0, 0, 0, 0, 0, 0, 0, 6075, 0, 0, 0, 0, 0, 0, 7161, 0, 0, 0, 7178, 0, 0, 0, 0, 0, 0, 0, 0, 0, 0, 6075] = true := by decide +kernel
set_option maxRecDepth 100000 in
theorem z_ck_257 : z_pair 257 8064 1012 8063 110 [0, 6075] = true := by decide +kernel
set_option maxRecDepth 100000 in
theorem z_ck_258 : z_pair 258 8060 1012 8058 8059 [0, 0, 0, 0, 6075, 0, 0, 0, 0, 0, 0, 6075, 0, 0, 0, 0, 6199, 0, 0, 0, 0, 6199, 0, 0, 0, 0, 8061] = true := by decide +kernel
set_option maxRecDepth 100000 in
theorem z_ck_259 : z_pair 259 8068 1012 8066 8067 [0, 0, 0, 6199, 0, 0, 0, 0, 0, 0, 0, 0, 0, 6075, 0, 0, 0, 0, 0, 0, 0, 8061] = true := by decide +kernel
set_option maxRecDepth 100000 in
theorem z_ck_260 : z_pair 260 8072 1012 8070 8071 [0, 0, 0, 0, 0, 0, 6075, 0, 0, 0, 0, 0, 7161, 0, 0, 0, 0, 0, 0, 7178, 0, 0, 7178] = true := by decide +kernel
set_option maxRecDepth 100000 in
theorem z_ck_261 : z_pair 261 8076 1012 8074 8075 [0, 0, 0, 0, 0, 0, 0, 0, 6075, 0, 0, 0, 0, 0, 6075] = true := by decide +kernel
set_option maxRecDepth 100000 in
theorem z_ck_262 : z_pair 262 8080 1012 8078 8079 [0, 0, 0, 6199, 0, 0, 0, 0, 0, 0, 0, 0, 0, 6100, 0, 0, 6075, 0, 0, 0, 0, 0, 0, 0, 6098, 0, 0, 0, 0, 0, 0, 6075, 0, 0, 0, 0, 0, 8002, 0, 0, 0, 6075, 0, 0, 0, 0, 0, 0, 0, 0, 0, 6075, 0, 0, 6100, 0, 0, 0, 0, 0, 0, 0, 6098] = true := by decide +kernel
set_option maxRecDepth 100000 in
theorem z_ck_263 : z_pair 263 8092 1012 8091 112 [0, 0, 0, 0, 6075, 0, 0, 0, 0, 0, 0, 0, 0, 0, 6075, 0, 0, 0, 0, 0, 7161, 0, 0, 0, 7161, 0, 0, 0, 7178, 0, 0, 7178] = true := by decide +kernel
set_option maxRecDepth 100000 in
theorem z_ck_264 : z_pair 264 8088 1012 8087 111 [0, 0, 0, 0, 6075, 0, 0, 0, 0, 0, 7161, 0, 0, 0, 7178, 0, 0, 0, 0, 0, 0, 8089] = true := by decide +kernel
set_option maxRecDepth 100000 in
theorem z_ck_265 : z_pair 265 8084 1012 8082 8083 [0, 8085] = true := by decide +kernel
set_option maxRecDepth 100000 in
theorem z_ck_266 : z_pair 266 8096 1012 8094 8095 [0, 6075, 0, 0, 0, 0, 0, 0, 0, 7150, 0, 0, 0, 0, 0, 0, 0, 0, 6075, 0, 0, 0, 0, 0, 7161, 0, 0, 0, 7178, 0, 0, 6199, 0, 0, 0, 0, 0, 7178] = true := by decide +kernel
set_option maxRecDepth 100000 in
theorem z_ck_267 : z_pair 267 8100 1012 8098 8099 [0, 8089] = true := by decide +kernel
set_option maxRecDepth 100000 in
theorem z_ck_268 : z_pair 268 8112 1012 8111 114 [0, 0, 6103, 0, 0, 0, 0, 0, 0, 6101, 0, 0, 0, 0, 0, 7157, 0, 0, 0, 6102, 0, 6103, 0, 0, 0, 0, 6103, 0, 0, 6103] = true := by decide +kernel
set_option maxRecDepth 100000 in
theorem z_ck_269 : z_pair 269 8132 1012 8131 119 [0, 0, 0, 0, 0, 0, 6075, 0, 0, 0, 0, 0, 7161, 0, 0, 0, 0, 6206, 0, 8133, 0, 0, 0, 0, 6210, 0, 8133, 0, 0, 0, 6101, 0, 0, 6206, 0, 0, 6101, 0, 0, 6210, 0, 7182, 0, 0, 0, 0, 0, 0, 7037] = true := by decide +kernel
set_option maxRecDepth 100000 in
theorem z_ck_270 : z_pair 270 8136 1012 8135 120 [0, 0, 0, 0, 0, 0, 6102] = true := by decide +kernel
set_option maxRecDepth 100000 in
theorem z_ck_271 : z_pair 271 8128 1012 8127 118 [0, 0, 0, 8121, 0, 0, 0, 7157, 0, 0, 7157] = true := by decide +kernel
set_option maxRecDepth 100000 in
theorem z_ck_272 : z_pair 272 8120 1012 8119 116 [0, 6101, 0, 0, 0, 6101, 0, 0, 7182, 0, 0, 0, 0, 0, 0, 0, 8121, 0, 0, 0, 6104, 0, 0, 0, 0, 8125, 0, 0, 0, 6105, 0, 0, 0, 0, 0, 0, 0, 0, 0, 0, 0, 0, 0, 8121, 0, 0, 0, 6106] = true := by decide +kernel
set_option maxRecDepth 100000 in
theorem z_ck_273 : z_pair 273 8116 1012 8115 115 [0, 0, 0, 0, 0, 0, 0, 0, 0, 0, 6102, 0, 0, 0, 6102, 0, 0, 0, 0, 8117, 0, 0, 0, 0, 0, 0, 0, 0, 0, 0, 8129] = true := by decide +kernel
set_option maxRecDepth 100000 in
theorem z_ck_274 : z_pair 274 8108 1012 8107 113 [0, 8109, 0, 6103, 0, 0, 0, 0, 0, 0, 0, 0, 6101, 0, 6102, 0, 0, 0, 0, 0, 0, 0, 6101, 0, 6102, 0, 0, 0, 0, 0, 0, 0, 0, 6101, 0, 6102, 0, 0, 0, 0, 0, 0, 0, 0, 0, 0, 0, 0, 8113, 0, 0, 0, 0, 6103, 0, 0, 0, 0, 0, 0, 0, 0, 0, 0, 0, 0, 0, 6101, 0, 6102] = true := by decide +kernel
set_option maxRecDepth 100000 in
theorem z_ck_275 : z_pair 275 8104 1012 8102 8103 [0, 6196, 0, 0, 0, 0, 7150, 0, 8105, 0, 0, 0, 0, 6101] = true := by decide +kernel
set_option maxRecDepth 100000 in
theorem z_ck_276 : z_pair 276 8140 1012 8138 8139 [0, 0, 0, 7150, 0, 8105] = true := by decide +kernel
set_option maxRecDepth 100000 in
theorem z_ck_277 : z_pair 277 8144 1012 8142 8143 [0, 0, 0, 0, 6196, 0, 0, 0, 0, 0, 0, 0, 0, 0, 8105, 0, 0, 0, 0, 0, 0, 0, 0, 0, 0, 0, 6101] = true := by decide +kernel
set_option maxRecDepth 100000 in
theorem z_ck_278 : z_pair 278 8148 1012 8146 8147 [0, 0, 0, 6199, 0, 0, 0, 0, 6199, 0, 0, 0, 0, 0, 6196, 0, 0, 0, 0, 0, 6104, 0, 0, 6105, 0, 0, 0, 0, 0, 0, 8105, 0, 0, 0, 0, 0, 0, 0, 0, 0, 0, 0, 6101] = true := by decide +kernel
set_option maxRecDepth 100000 in
theorem z_ck_279 : z_pair 279 8152 1012 8150 8151 [0, 0, 0, 0, 6196, 0, 0, 0, 0, 8109, 0, 6103, 0, 0, 0, 0, 0, 6106, 0, 0, 0, 0, 8105, 0, 0, 0, 0, 0, 6106, 0, 0, 6106, 0, 0, 0, 0, 0, 6106, 0, 0, 6101] = true := by decide +kernel
set_option maxRecDepth 100000 in
theorem z_ck_280 : z_pair 280 8165 1012 8164 122 [0, 0, 0, 0, 0, 0, 6075, 0, 0, 0, 0, 0, 0, 7161, 0, 0, 6101, 0, 0, 6206, 0, 0, 6101, 0, 0, 6210, 0, 7182] = true := by decide +kernel
set_option maxRecDepth 100000 in
theorem z_ck_281 : z_pair 281 8161 1012 8160 121 [0, 0, 0, 0, 0, 0, 6101, 0, 6102] = true := by decide +kernel
set_option maxRecDepth 100000 in
theorem z_ck_282 : z_pair 282 8156 1012 8154 8155 [0, 8109, 0, 6103, 0, 0, 0, 8157, 0, 0, 0, 0, 6101, 0, 6102, 0, 0, 0, 0, 0, 0, 0, 6101, 0, 6102, 0, 0, 0, 0, 0, 0, 0, 0, 6101, 0, 6102, 0, 0, 0, 0, 0, 0, 6103, 0, 0, 0, 0, 0, 0, 8158, 0, 0, 0, 6103, 0, 0, 0, 0, 8162, 0, 0, 0, 8162, 0, 0, 0, 0, 0, 0, 6101, 0, 6102] = true := by decide +kernel
set_option maxRecDepth 100000 in
theorem z_ck_283 : z_pair 283 8177 1012 8176 124 [0, 0, 6109, 0, 0, 0, 0, 6075, 0, 0, 0, 0, 6107, 0, 0, 0, 0, 0, 7161, 0, 0, 0, 6108, 0, 6109, 0, 0, 0, 0, 6109, 0, 0, 6109] = true := by decide +kernel
set_option maxRecDepth 100000 in
theorem z_ck_284 : z_pair 284 8189 1012 8188 127 [0, 0, 0, 0, 0, 0, 6075, 0, 0, 0, 0, 0, 0, 7161, 0, 0, 0, 0, 6202, 0, 0, 6107] = true := by decide +kernel
set_option maxRecDepth 100000 in
theorem z_ck_285 : z_pair 285 8193 1012 8192 128 [0, 0, 0, 0, 6109, 0, 0, 0, 6108, 0, 0, 0, 6202, 0, 0, 0, 0, 0, 0, 0, 7157] = true := by decide +kernel
set_option maxRecDepth 100000 in
theorem z_ck_286 : z_pair 286 8181 1012 8180 125 [0, 0, 0, 0, 0, 0, 0, 0, 6107, 0, 6108, 0, 0, 0, 0, 6107, 0, 6108] = true := by decide +kernel
set_option maxRecDepth 100000 in
theorem z_ck_287 : z_pair 287 8185 1012 8184 126 [0, 0, 0, 0, 0, 0, 0, 6108, 0, 0, 0, 0, 0, 6202, 0, 0, 0, 0, 0, 0, 8186, 0, 6110, 0, 0, 0, 0, 8190, 0, 0, 0, 8186, 0, 6110, 0, 0, 0, 0, 0, 0, 0, 0, 0, 0, 0, 0, 0, 8190, 0, 0, 0, 0, 0, 0, 0, 8190, 0, 0, 0, 8186, 0, 0, 8186] = true := by decide +kernel
set_option maxRecDepth 100000 in
theorem z_ck_288 : z_pair 288 8173 1012 8172 123 [0, 8174, 0, 8109, 0, 6109, 0, 0, 0, 0, 0, 0, 0, 0, 6109, 0, 6109, 0, 0, 0, 0, 0, 0, 0, 6103, 0, 6110, 0, 0, 0, 0, 6103, 0, 0, 0, 0, 0, 0, 0, 0, 0, 0, 0, 6108, 0, 0, 0, 0, 6107, 0, 0, 0, 0, 0, 0, 0, 6107, 0, 0, 0, 6109, 0, 0, 6107, 0, 0, 0, 0, 0, 0, 0, 0, 0, 8178, 0, 0, 0, 0, 0, 0, 8182, 0, 0, 0, 0, 6109] = true := by decide +kernel
set_option maxRecDepth 100000 in
theorem z_ck_289 : z_pair 289 8169 1012 8167 8168 [0, 0, 0, 0, 0, 7218, 0, 0, 0, 7161, 0, 0, 0, 0, 8170, 0, 0, 0, 0, 0, 0, 0, 0, 0, 6107, 0, 0, 0, 0, 6109, 0, 0, 0, 0, 6110] = true := by decide +kernel
set_option maxRecDepth 100000 in
theorem z_ck_290 : z_pair 290 8197 1012 8195 8196 [0, 0, 0, 8170] = true := by decide +kernel
set_option maxRecDepth 100000 in
theorem z_ck_291 : z_pair 291 8201 1012 8199 8200 [0, 0, 7218, 0, 0, 0, 7161, 0, 0, 0, 0, 8170, 0, 0, 0, 0, 6107] = true := by decide +kernel
set_option maxRecDepth 100000 in
theorem z_ck_292 : z_pair 292 8217 1012 8216 131 [0, 0, 7161, 0, 0, 0, 0, 6206, 7037, 0, 0, 0, 0, 6206, 0, 8133, 0, 0, 0, 0, 6210, 7037, 0, 0, 0, 0, 6210, 0, 8133] = true := by decide +kernel
set_option maxRecDepth 100000 in
theorem z_ck_293 : z_pair 293 8213 1012 8212 130 [0, 0, 0, 0, 6075, 0, 0, 0, 0, 0, 0, 0, 8214, 0, 0, 0, 6101, 0, 0, 6206, 0, 0, 6101, 0, 0, 6210, 0, 7182, 0, 0, 0, 0, 0, 0, 0, 0, 0, 0, 0, 0, 0, 0, 8214, 0, 0, 6101, 0, 0, 6206, 0, 0, 6101, 0, 0, 6210, 0, 7182] = true := by decide +kernel
set_option maxRecDepth 100000 in
theorem z_ck_294 : z_pair 294 8209 1012 8208 129 [0, 0, 6103, 0, 0, 0, 0, 0, 0, 6101, 0, 0, 6075, 0, 0, 0, 0, 0, 0, 0, 7037, 0, 0, 0, 6102, 0, 6103, 0, 0, 0, 0, 6103, 0, 0, 6103, 0, 0, 0, 0, 0, 8210, 0, 0, 0, 0, 0, 0, 6103, 0, 0, 6101, 0, 6102, 0, 0, 0, 0, 0, 0, 0, 0, 6103, 0, 0, 6102, 0, 0, 0, 0, 6101, 0, 0, 0, 0, 0, 0, 0, 6101, 0, 0, 0, 0, 0, 0, 0, 6101, 0, 0, 0, 6075, 0, 0, 0, 0, 0, 0, 0, 0, 0, 0, 8210, 0, 0, 0, 0, 6103, 0, 0, 6101, 0, 6102, 0, 0, 0, 0, 0, 0, 0, 6103] = true := by decide +kernel
set_option maxRecDepth 100000 in
theorem z_ck_295 : z_pair 295 8205 1012 8203 8204 [0, 0, 0, 0, 0, 0, 0, 0, 0, 0, 0, 7154, 0, 0, 0, 0, 8206] = true := by decide +kernel
set_option maxRecDepth 100000 in
theorem z_ck_296 : z_pair 296 8221 1012 8219 8220 [0, 0, 0, 0, 0, 6101, 0, 0, 0, 0, 0, 0, 6101, 0, 0, 0, 0, 0, 0, 0, 6101, 0, 0, 0, 0, 0, 0, 0, 0, 8222, 0, 0, 0, 0, 0, 0, 0, 0, 6101] = true := by decide +kernel
set_option maxRecDepth 100000 in
theorem z_ck_297 : z_pair 297 8225 1012 8224 132 [0, 0, 0, 0, 0, 0, 6101, 0, 0, 0, 6101, 0, 0, 0, 0, 0, 0, 8121, 0, 0, 6101, 0, 0, 0, 6101, 0, 0, 8121] = true := by decide +kernel
set_option maxRecDepth 100000 in
theorem z_ck_298 : z_pair 298 8237 1012 8236 134 [0, 0, 0, 0, 0, 0, 0, 0, 0, 0, 0, 0, 0, 0, 0, 6075, 0, 0, 0, 0, 0, 7037, 0, 0, 0, 0, 6206, 7037, 0, 0, 0, 0, 6210, 7037, 0, 0, 0, 0, 0, 6206, 0, 0, 0, 0, 6210] = true := by decide +kernel
set_option maxRecDepth 100000 in
theorem z_ck_299 : z_pair 299 8233 1012 8232 133 [0, 0, 0, 0, 0, 0, 0, 0, 0, 0, 0, 7037, 0, 0, 0, 0, 0, 0, 8234] = true := by decide +kernel
set_option maxRecDepth 100000 in
theorem z_ck_300 : z_pair 300 8229 1012 8227 8228 [0, 0, 6075, 0, 0, 8230] = true := by decide +kernel
set_option maxRecDepth 100000 in
theorem z_ck_301 : z_pair 301 9001 1012 8239 9000 [0, 0, 0, 0, 0, 0, 6075, 0, 0, 0, 0, 0, 7161, 0, 0, 0, 6075, 0, 0, 0, 0, 0, 0, 0, 0, 8230, 0, 0, 6075, 0, 0, 8230] = true := by decide +kernel
set_option maxRecDepth 100000 in
theorem z_ck_302 : z_pair 302 9016 1012 9015 136 [0, 0, 0, 0, 0, 0, 0, 7037, 0, 0, 0, 7157, 0, 0, 0, 0, 6111] = true := by decide +kernel
set_option maxRecDepth 100000 in
theorem z_ck_303 : z_pair 303 9008 1012 9007 0 [0, 0, 0, 6199] = true := by decide +kernel
set_option maxRecDepth 100000 in
theorem z_ck_304 : z_pair 304 9012 1012 9011 135 [0, 0, 0, 0, 0, 0, 6111, 0, 0, 0, 9013, 0, 0, 0, 0, 0, 0, 0, 0, 0, 0, 9013] = true := by decide +kernel
set_option maxRecDepth 100000 in
theorem z_ck_305 : z_pair 305 9005 1012 9003 9004 [0, 9006, 0, 0, 0, 0, 0, 9009] = true := by decide +kernel
set_option maxRecDepth 100000 in
theorem z_ck_306 : z_pair 306 9020 1012 9018 9019 [0, 9006, 0, 0, 0, 9009] = true := by decide +kernel
set_option maxRecDepth 100000 in
theorem z_ck_307 : z_pair 307 9028 1012 9027 137 [0, 0, 0, 0, 0, 0, 6112, 0, 0, 0, 0, 0, 0, 8157, 0, 0, 0, 0, 0, 0, 0, 0, 0, 0, 0, 0, 6075, 0, 0, 0, 0, 0, 7161, 0, 0, 0, 0, 0, 7178, 0, 0, 0, 0, 0, 6112, 0, 0, 6206, 0, 0, 0, 0, 6112, 0, 0, 6210, 0, 0, 0, 6112, 0, 0, 6210, 0, 6112, 0, 0, 6206, 0, 0, 0, 0, 0, 6112, 0, 0, 6210, 0, 0, 0, 0, 6112, 0, 0, 6206, 0, 0, 0, 6112, 0, 0, 6206, 0, 6112, 0, 0, 6210] = true := by decide +kernel
set_option maxRecDepth 100000 in
theorem z_ck_308 : z_pair 308 9024 1012 9022 9023 [0, 6196, 0, 0, 6196, 0, 0, 0, 0, 0, 9025, 0, 6112, 0, 0, 8157, 0, 0, 0, 0, 6112] = true := by decide +kernel
set_option maxRecDepth 100000 in
theorem z_ck_309 : z_pair 309 9036 1012 9035 138 [0, 0, 0, 0, 6075, 0, 0, 0, 0, 0, 7161, 0, 0, 0, 0, 0, 0, 0, 6202, 0, 0, 0, 0, 6202, 0, 0, 6112, 0, 0, 0, 0, 0, 7178, 0, 0, 0, 0, 0, 6112] = true := by decide +kernel
set_option maxRecDepth 100000 in
theorem z_ck_310 : z_pair 310 9032 1012 9030 9031 [0, 6196, 0, 0, 6196, 0, 0, 0, 0, 0, 0, 0, 9025, 0, 6112, 0, 0, 8157, 0, 0, 0, 6112, 0, 0, 0, 0, 0, 0, 0, 0, 0, 0, 0, 0, 0, 0, 0, 0, 0, 0, 0, 9033] = true := by decide +kernel
set_option maxRecDepth 100000 in
theorem z_ck_311 : z_pair 311 9040 1012 9038 9039 [0, 0, 0, 0, 6075, 0, 0, 0, 0, 0, 0, 0, 7218, 0, 0, 0, 0, 6199, 0, 0, 6075, 0, 0, 0, 0, 0, 0, 0, 6075, 0, 0, 0, 6075, 0, 0, 0, 0, 0, 0, 0, 6075, 0, 0, 0, 6075, 0, 0, 0, 0, 0, 0, 0, 0, 0, 6075, 0, 0, 0, 0, 0, 0, 0, 6075] = true := by decide +kernel
set_option maxRecDepth 100000 in
theorem z_ck_312 : z_pair 312 9044 1012 9042 9043 [0, 0, 0, 0, 0, 0, 6075, 0, 0, 0, 0, 0, 0, 0, 0, 0, 0, 0, 6075, 0, 0, 0, 0, 0, 0, 0, 0, 0, 0, 6075, 0, 0, 8017, 0, 6075] = true := by decide +kernel
set_option maxRecDepth 100000 in
theorem z_ck_313 : z_pair 313 9048 1012 9046 9047 [0, 6075, 0, 6076, 6072, 0, 6075] = true := by decide +kernel
set_option maxRecDepth 100000 in
theorem z_ck_314 : z_pair 314 9052 1012 9050 9051 [0, 6076, 0, 6075, 6072, 0, 6075] = true := by decide +kernel
set_option maxRecDepth 100000 in
theorem z_ck_315 : z_pair 315 9056 1012 9054 9055 [0, 0, 0, 6199, 0, 0, 6075, 0, 0, 0, 0, 0, 0, 0, 6079] = true := by decide +kernel
set_option maxRecDepth 100000 in
theorem z_ck_316 : z_pair 316 4002 1018 4001 0 [0, 0, 0, 0, 4003, 0, 0, 0, 0, 4004, 0, 0, 0, 0, 4004, 0, 0, 0, 0, 0, 0, 0, 0, 4005] = true := by decide +kernel
set_option maxRecDepth 100000 in
theorem z_ck_317 : z_pair 317 5002 1020 5001 0 [0, 0, 0, 0, 5003, 0, 0, 0, 0, 5004, 0, 0, 0, 0, 5004, 0, 0, 0, 0, 0, 0, 0, 0, 5005] = true := by decide +kernel
def z_good (i : Nat) : Prop := ∃ p1 p2 p3 p4 ps, z_pair i p1 p2 p3 p4 ps = true
theorem z_all_0 : ∀ i, 0 ≤ i → i < 20 → z_good i := by
  intro i h1 h2
  have : i = 0 ∨ i = 1 ∨ i = 2 ∨ i = 3 ∨ i = 4 ∨ i = 5 ∨ i = 6 ∨ i = 7 ∨ i = 8 ∨ i = 9 ∨ i = 10 ∨ i = 11 ∨ i = 12 ∨ i = 13 ∨ i = 14 ∨ i = 15 ∨ i = 16 ∨ i = 17 ∨ i = 18 ∨ i = 19 := by omega
  rcases this with rfl | rfl | rfl | rfl | rfl | rfl | rfl | rfl | rfl | rfl | rfl | rfl | rfl | rfl | rfl | rfl | rfl | rfl | rfl | rfl
  · exact ⟨_, _, _, _, _, z_ck_0⟩
  · exact ⟨_, _, _, _, _, z_ck_1⟩
  · exact ⟨_, _, _, _, _, z_ck_2⟩
  · exact ⟨_, _, _, _, _, z_ck_3⟩
  · exact ⟨_, _, _, _, _, z_ck_4⟩
  · exact ⟨_, _, _, _, _, z_ck_5⟩
  · exact ⟨_, _, _, _, _, z_ck_6⟩
  · exact ⟨_, _, _, _, _, z_ck_7⟩
  · exact ⟨_, _, _, _, _, z_ck_8⟩
  · exact ⟨_, _, _, _, _, z_ck_9⟩
  · exact ⟨_, _, _, _, _, z_ck_10⟩
  · exact ⟨_, _, _, _, _, z_ck_11⟩
  · exact ⟨_, _, _, _, _, z_ck_12⟩
  · exact ⟨_, _, _, _, _, z_ck_13⟩
  · exact ⟨_, _, _, _, _, z_ck_14⟩
  · exact ⟨_, _, _, _, _, z_ck_15⟩
  · exact ⟨_, _, _, _, _, z_ck_16⟩
  · exact ⟨_, _, _, _, _, z_ck_17⟩
  · exact ⟨_, _, _, _, _, z_ck_18⟩
  · exact ⟨_, _, _, _, _, z_ck_19⟩
theorem z_all_1 : ∀ i, 20 ≤ i → i < 40 → z_good i := by
  intro i h1 h2
  have : i = 20 ∨ i = 21 ∨ i = 22 ∨ i = 23 ∨ i = 24 ∨ i = 25 ∨ i = 26 ∨ i = 27 ∨ i = 28 ∨ i = 29 ∨ i = 30 ∨ i = 31 ∨ i = 32 ∨ i = 33 ∨ i = 34 ∨ i = 35 ∨ i = 36 ∨ i = 37 ∨ i = 38 ∨ i = 39 := by omega
  rcases this with rfl | rfl | rfl | rfl | rfl | rfl | rfl | rfl | rfl | rfl | rfl | rfl | rfl | rfl | rfl | rfl | rfl | rfl | rfl | rfl
  · exact ⟨_, _, _, _, _, z_ck_20⟩
  · exact ⟨_, _, _, _, _, z_ck_21⟩
  · exact ⟨_, _, _, _, _, z_ck_22⟩
  · exact ⟨_, _, _, _, _, z_ck_23⟩
  · exact ⟨_, _, _, _, _, z_ck_24⟩
  · exact ⟨_, _, _, _, _, z_ck_25⟩
  · exact ⟨_, _, _, _, _, z_ck_26⟩
  · exact ⟨_, _, _, _, _, z_ck_27⟩
  · exact ⟨_, _, _, _, _, z_ck_28⟩
  · exact ⟨_, _, _, _, _, z_ck_29⟩
  · exact ⟨_, _, _, _, _, z_ck_30⟩
  · exact ⟨_, _, _, _, _, z_ck_31⟩
  · exact ⟨_, _, _, _, _, z_ck_32⟩
  · exact ⟨_, _, _, _, _, z_ck_33⟩
  · exact ⟨_, _, _, _, _, z_ck_34⟩
  · exact ⟨_, _, _, _, _, z_ck_35⟩
  · exact ⟨_, _, _, _, _, z_ck_36⟩
  · exact ⟨_, _, _, _, _, z_ck_37⟩
  · exact ⟨_, _, _, _, _, z_ck_38⟩
  · exact ⟨_, _, _, _, _, z_ck_39⟩
theorem z_all_2 : ∀ i, 40 ≤ i → i < 60 → z_good i := by
  intro i h1 h2
  have : i = 40 ∨ i = 41 ∨ i = 42 ∨ i = 43 ∨ i = 44 ∨ i = 45 ∨ i = 46 ∨ i = 47 ∨ i = 48 ∨ i = 49 ∨ i = 50 ∨ i = 51 ∨ i = 52 ∨ i = 53 ∨ i = 54 ∨ i = 55 ∨ i = 56 ∨ i = 57 ∨ i = 58 ∨ i = 59 := by omega
  rcases this with rfl | rfl | rfl | rfl | rfl | rfl | rfl | rfl | rfl | rfl | rfl | rfl | rfl | rfl | rfl | rfl | rfl | rfl | rfl | rfl
  · exact ⟨_, _, _, _, _, z_ck_40⟩
  · exact ⟨_, _, _, _, _, z_ck_41⟩
  · exact ⟨_, _, _, _, _, z_ck_42⟩
  · exact ⟨_, _, _, _, _, z_ck_43⟩
  · exact ⟨_, _, _, _, _, z_ck_44⟩
  · exact ⟨_, _, _, _, _, z_ck_45⟩
  · exact ⟨_, _, _, _, _, z_ck_46⟩
  · exact ⟨_, _, _, _, _, z_ck_47⟩
  · exact ⟨_, _, _, _, _, z_ck_48⟩
  · exact ⟨_, _, _, _, _, z_ck_49⟩
  · exact ⟨_, _, _, _, _, z_ck_50⟩
  · exact ⟨_, _, _, _, _, z_ck_51⟩
  · exact ⟨_, _, _, _, _, z_ck_52⟩
  · exact ⟨_, _, _, _, _, z_ck_53⟩
  · exact ⟨_, _, _, _, _, z_ck_54⟩
  · exact ⟨_, _, _, _, _, z_ck_55⟩
  · exact ⟨_, _, _, _, _, z_ck_56⟩
  · exact ⟨_, _, _, _, _, z_ck_57⟩
  · exact ⟨_, _, _, _, _, z_ck_58⟩
  · exact ⟨_, _, _, _, _, z_ck_59⟩
theorem z_all_3 : ∀ i, 60 ≤ i → i < 80 → z_good i := by
  intro i h1 h2
  have : i = 60 ∨ i = 61 ∨ i = 62 ∨ i = 63 ∨ i = 64 ∨ i = 65 ∨ i = 66 ∨ i = 67 ∨ i = 68 ∨ i = 69 ∨ i = 70 ∨ i = 71 ∨ i = 72 ∨ i = 73 ∨ i = 74 ∨ i = 75 ∨ i = 76 ∨ i = 77 ∨ i = 78 ∨ i = 79 := by omega
  rcases this with rfl | rfl | rfl | rfl | rfl | rfl | rfl | rfl | rfl | rfl | rfl | rfl | rfl | rfl | rfl | rfl | rfl | rfl | rfl | rfl
  · exact ⟨_, _, _, _, _, z_ck_60⟩
  · exact ⟨_, _, _, _, _, z_ck_61⟩
  · exact ⟨_, _, _, _, _, z_ck_62⟩
  · exact ⟨_, _, _, _, _, z_ck_63⟩
  · exact ⟨_, _, _, _, _, z_ck_64⟩
  · exact ⟨_, _, _, _, _, z_ck_65⟩
  · exact ⟨_, _, _, _, _, z_ck_66⟩
  · exact ⟨_, _, _, _, _, z_ck_67⟩
  · exact ⟨_, _, _, _, _, z_ck_68⟩
  · exact ⟨_, _, _, _, _, z_ck_69⟩
  · exact ⟨_, _, _, _, _, z_ck_70⟩
  · exact ⟨_, _, _, _, _, z_ck_71⟩
  · exact ⟨_, _, _, _, _, z_ck_72⟩
  · exact ⟨_, _, _, _, _, z_ck_73⟩
  · exact ⟨_, _, _, _, _, z_ck_74⟩
  · exact ⟨_, _, _, _, _, z_ck_75⟩
  · exact ⟨_, _, _, _, _, z_ck_76⟩
  · exact ⟨_, _, _, _, _, z_ck_77⟩
  · exact ⟨_, _, _, _, _, z_ck_78⟩
  · exact ⟨_, _, _, _, _, z_ck_79⟩
theorem z_all_4 : ∀ i, 80 ≤ i → i < 100 → z_good i := by
  intro i h1 h2
  have : i = 80 ∨ i = 81 ∨ i = 82 ∨ i = 83 ∨ i = 84 ∨ i = 85 ∨ i = 86 ∨ i = 87 ∨ i = 88 ∨ i = 89 ∨ i = 90 ∨ i = 91 ∨ i = 92 ∨ i = 93 ∨ i = 94 ∨ i = 95 ∨ i = 96 ∨ i = 97 ∨ i = 98 ∨ i = 99 := by omega
  rcases this with rfl | rfl | rfl | rfl | rfl | rfl | rfl | rfl | rfl | rfl | rfl | rfl | rfl | rfl | rfl | rfl | rfl | rfl | rfl | rfl
  · exact ⟨_, _, _, _, _, z_ck_80⟩
  · exact ⟨_, _, _, _, _, z_ck_81⟩
  · exact ⟨_, _, _, _, _, z_ck_82⟩
  · exact ⟨_, _, _, _, _, z_ck_83⟩
  · exact ⟨_, _, _, _, _, z_ck_84⟩
  · exact ⟨_, _, _, _, _, z_ck_85⟩
  · exact ⟨_, _, _, _, _, z_ck_86⟩
  · exact ⟨_, _, _, _, _, z_ck_87⟩
  · exact ⟨_, _, _, _, _, z_ck_88⟩
  · exact ⟨_, _, _, _, _, z_ck_89⟩
  · exact ⟨_, _, _, _, _, z_ck_90⟩
  · exact ⟨_, _, _, _, _, z_ck_91⟩
  · exact ⟨_, _, _, _, _, z_ck_92⟩
  · exact ⟨_, _, _, _, _, z_ck_93⟩
  · exact ⟨_, _, _, _, _, z_ck_94⟩
  · exact ⟨_, _, _, _, _, z_ck_95⟩
  · exact ⟨_, _, _, _, _, z_ck_96⟩
  · exact ⟨_, _, _, _, _, z_ck_97⟩
  · exact ⟨_, _, _, _, _, z_ck_98⟩
  · exact ⟨_, _, _, _, _, z_ck_99⟩
theorem z_all_5 : ∀ i, 100 ≤ i → i < 120 → z_good i := by
  intro i h1 h2
  have : i = 100 ∨ i = 101 ∨ i = 102 ∨ i = 103 ∨ i = 104 ∨ i = 105 ∨ i = 106 ∨ i = 107 ∨ i = 108 ∨ i = 109 ∨ i = 110 ∨ i = 111 ∨ i = 112 ∨ i = 113 ∨ i = 114 ∨ i = 115 ∨ i = 116 ∨ i = 117 ∨ i = 118 ∨ i = 119 := by omega
  rcases this with rfl | rfl | rfl | rfl | rfl | rfl | rfl | rfl | rfl | rfl | rfl | rfl | rfl | rfl | rfl | rfl | rfl | rfl | rfl | rfl
  · exact ⟨_, _, _, _, _, z_ck_100⟩
  · exact ⟨_, _, _, _, _, z_ck_101⟩
  · exact ⟨_, _, _, _, _, z_ck_102⟩
  · exact ⟨_, _, _, _, _, z_ck_103⟩
  · exact ⟨_, _, _, _, _, z_ck_104⟩
  · exact ⟨_, _, _, _, _, z_ck_105⟩
  · exact ⟨_, _, _, _, _, z_ck_106⟩
  · exact ⟨_, _, _, _, _, z_ck_107⟩
  · exact ⟨_, _, _, _, _, z_ck_108⟩
  · exact ⟨_, _, _, _, _, z_ck_109⟩
  · exact ⟨_, _, _, _, _, z_ck_110⟩
  · exact ⟨_, _, _, _, _, z_ck_111⟩
  · exact ⟨_, _, _, _, _, z_ck_112⟩
  · exact ⟨_, _, _, _, _, z_ck_113⟩
  · exact ⟨_, _, _, _, _, z_ck_114⟩
  · exact ⟨_, _, _, _, _, z_ck_115⟩
  · exact ⟨_, _, _, _, _, z_ck_116⟩
  · exact ⟨_, _, _, _, _, z_ck_117⟩
  · exact ⟨_, _, _, _, _, z_ck_118⟩
  · exact ⟨_, _, _, _, _, z_ck_119⟩
theorem z_all_6 : ∀ i, 120 ≤ i → i < 140 → z_good i := by
  intro i h1 h2
  have : i = 120 ∨ i = 121 ∨ i = 122 ∨ i = 123 ∨ i = 124 ∨ i = 125 ∨ i = 126 ∨ i = 127 ∨ i = 128 ∨ i = 129 ∨ i = 130 ∨ i = 131 ∨ i = 132 ∨ i = 133 ∨ i = 134 ∨ i = 135 ∨ i = 136 ∨ i = 137 ∨ i = 138 ∨ i = 139 := by omega
  rcases this with rfl | rfl | rfl | rfl | rfl | rfl | rfl | rfl | rfl | rfl | rfl | rfl | rfl | rfl | rfl | rfl | rfl | rfl | rfl | rfl
  · exact ⟨_, _, _, _, _, z_ck_120⟩
  · exact ⟨_, _, _, _, _, z_ck_121⟩
  · exact ⟨_, _, _, _, _, z_ck_122⟩
  · exact ⟨_, _, _, _, _, z_ck_123⟩
  · exact ⟨_, _, _, _, _, z_ck_124⟩
  · exact ⟨_, _, _, _, _, z_ck_125⟩
  · exact ⟨_, _, _, _, _, z_ck_126⟩
  · exact ⟨_, _, _, _, _, z_ck_127⟩
  · exact ⟨_, _, _, _, _, z_ck_128⟩
  · exact ⟨_, _, _, _, _, z_ck_129⟩
  · exact ⟨_, _, _, _, _, z_ck_130⟩
  · exact ⟨_, _, _, _, _, z_ck_131⟩
  · exact ⟨_, _, _, _, _, z_ck_132⟩
  · exact ⟨_, _, _, _, _, z_ck_133⟩
  · exact ⟨_, _, _, _, _, z_ck_134⟩
  · exact ⟨_, _, _, _, _, z_ck_135⟩
  · exact ⟨_, _, _, _, _, z_ck_136⟩
  · exact ⟨_, _, _, _, _, z_ck_137⟩
  · exact ⟨_, _, _, _, _, z_ck_138⟩
  · exact ⟨_, _, _, _, _, z_ck_139⟩
theorem z_all_7 : ∀ i, 140 ≤ i → i < 160 → z_good i := by
  intro i h1 h2
  have : i = 140 ∨ i = 141 ∨ i = 142 ∨ i = 143 ∨ i = 144 ∨ i = 145 ∨ i = 146 ∨ i = 147 ∨ i = 148 ∨ i = 149 ∨ i = 150 ∨ i = 151 ∨ i = 152 ∨ i = 153 ∨ i = 154 ∨ i = 155 ∨ i = 156 ∨ i = 157 ∨ i = 158 ∨ i = 159 := by omega
  rcases this with rfl | rfl | rfl | rfl | rfl | rfl | rfl | rfl | rfl | rfl | rfl | rfl | rfl | rfl | rfl | rfl | rfl | rfl | rfl | rfl
  · exact ⟨_, _, _, _, _, z_ck_140⟩
  · exact ⟨_, _, _, _, _, z_ck_141⟩
  · exact ⟨_, _, _, _, _, z_ck_142⟩
  · exact ⟨_, _, _, _, _, z_ck_143⟩
  · exact ⟨_, _, _, _, _, z_ck_144⟩
  · exact ⟨_, _, _, _, _, z_ck_145⟩
  · exact ⟨_, _, _, _, _, z_ck_146⟩
  · exact ⟨_, _, _, _, _, z_ck_147⟩
  · exact ⟨_, _, _, _, _, z_ck_148⟩
  · exact ⟨_, _, _, _, _, z_ck_149⟩
  · exact ⟨_, _, _, _, _, z_ck_150⟩
  · exact ⟨_, _, _, _, _, z_ck_151⟩
  · exact ⟨_, _, _, _, _, z_ck_152⟩
  · exact ⟨_, _, _, _, _, z_ck_153⟩
  · exact ⟨_, _, _, _, _, z_ck_154⟩
  · exact ⟨_, _, _, _, _, z_ck_155⟩
  · exact ⟨_, _, _, _, _, z_ck_156⟩
  · exact ⟨_, _, _, _, _, z_ck_157⟩
  · exact ⟨_, _, _, _, _, z_ck_158⟩
  · exact ⟨_, _, _, _, _, z_ck_159⟩
theorem z_all_8 : ∀ i, 160 ≤ i → i < 180 → z_good i := by
  intro i h1 h2
  have : i = 160 ∨ i = 161 ∨ i = 162 ∨ i = 163 ∨ i = 164 ∨ i = 165 ∨ i = 166 ∨ i = 167 ∨ i = 168 ∨ i = 169 ∨ i = 170 ∨ i = 171 ∨ i = 172 ∨ i = 173 ∨ i = 174 ∨ i = 175 ∨ i = 176 ∨ i = 177 ∨ i = 178 ∨ i = 179 := by omega
  rcases this with rfl | rfl | rfl | rfl | rfl | rfl | rfl | rfl | rfl | rfl | rfl | rfl | rfl | rfl | rfl | rfl | rfl | rfl | rfl | rfl
  · exact ⟨_, _, _, _, _, z_ck_160⟩
  · exact ⟨_, _, _, _, _, z_ck_161⟩
  · exact ⟨_, _, _, _, _, z_ck_162⟩
  · exact ⟨_, _, _, _, _, z_ck_163⟩
  · exact ⟨_, _, _, _, _, z_ck_164⟩
  · exact ⟨_, _, _, _, _, z_ck_165⟩
  · exact ⟨_, _, _, _, _, z_ck_166⟩
  · exact ⟨_, _, _, _, _, z_ck_167⟩
  · exact ⟨_, _, _, _, _, z_ck_168⟩
  · exact ⟨_, _, _, _, _, z_ck_169⟩
  · exact ⟨_, _, _, _, _, z_ck_170⟩
  · exact ⟨_, _, _, _, _, z_ck_171⟩
  · exact ⟨_, _, _, _, _, z_ck_172⟩
  · exact ⟨_, _, _, _, _, z_ck_173⟩
  · exact ⟨_, _, _, _, _, z_ck_174⟩
  · exact ⟨_, _, _, _, _, z_ck_175⟩
  · exact ⟨_, _, _, _, _, z_ck_176⟩
  · exact ⟨_, _, _, _, _, z_ck_177⟩
  · exact ⟨_, _, _, _, _, z_ck_178⟩
  · exact ⟨_, _, _, _, _, z_ck_179⟩
theorem z_all_9 : ∀ i, 180 ≤ i → i < 200 → z_good i := by
  intro i h1 h2
  have : i = 180 ∨ i = 181 ∨ i = 182 ∨ i = 183 ∨ i = 184 ∨ i = 185 ∨ i = 186 ∨ i = 187 ∨ i = 188 ∨ i = 189 ∨ i = 190 ∨ i = 191 ∨ i = 192 ∨ i = 193 ∨ i = 194 ∨ i = 195 ∨ i = 196 ∨ i = 197 ∨ i = 198 ∨ i = 199 := by omega
  rcases this with rfl | rfl | rfl | rfl | rfl | rfl | rfl | rfl | rfl | rfl | rfl | rfl | rfl | rfl | rfl | rfl | rfl | rfl | rfl | rfl
  · exact ⟨_, _, _, _, _, z_ck_180⟩
  · exact ⟨_, _, _, _, _, z_ck_181⟩
  · exact ⟨_, _, _, _, _, z_ck_182⟩
  · exact ⟨_, _, _, _, _, z_ck_183⟩
  · exact ⟨_, _, _, _, _, z_ck_184⟩
  · exact ⟨_, _, _, _, _, z_ck_185⟩
  · exact ⟨_, _, _, _, _, z_ck_186⟩
  · exact ⟨_, _, _, _, _, z_ck_187⟩
  · exact ⟨_, _, _, _, _, z_ck_188⟩
  · exact ⟨_, _, _, _, _, z_ck_189⟩
  · exact ⟨_, _, _, _, _, z_ck_190⟩
  · exact ⟨_, _, _, _, _, z_ck_191⟩
  · exact ⟨_, _, _, _, _, z_ck_192⟩
  · exact ⟨_, _, _, _, _, z_ck_193⟩
  · exact ⟨_, _, _, _, _, z_ck_194⟩
  · exact ⟨_, _, _, _, _, z_ck_195⟩
  · exact ⟨_, _, _, _, _, z_ck_196⟩
  · exact ⟨_, _, _, _, _, z_ck_197⟩
  · exact ⟨_, _, _, _, _, z_ck_198⟩
  · exact ⟨_, _, _, _, _, z_ck_199⟩
theorem z_all_10 : ∀ i, 200 ≤ i → i < 220 → z_good i := by
  intro i h1 h2
  have : i = 200 ∨ i = 201 ∨ i = 202 ∨ i = 203 ∨ i = 204 ∨ i = 205 ∨ i = 206 ∨ i = 207 ∨ i = 208 ∨ i = 209 ∨ i = 210 ∨ i = 211 ∨ i = 212 ∨ i = 213 ∨ i = 214 ∨ i = 215 ∨ i = 216 ∨ i = 217 ∨ i = 218 ∨ i = 219 := by omega
  rcases this with rfl | rfl | rfl | rfl | rfl | rfl | rfl | rfl | rfl | rfl | rfl | rfl | rfl | rfl | rfl | rfl | rfl | rfl | rfl | rfl
  · exact ⟨_, _, _, _, _, z_ck_200⟩
  · exact ⟨_, _, _, _, _, z_ck_201⟩
  · exact ⟨_, _, _, _, _, z_ck_202⟩
  · exact ⟨_, _, _, _, _, z_ck_203⟩
  · exact ⟨_, _, _, _, _, z_ck_204⟩
  · exact ⟨_, _, _, _, _, z_ck_205⟩
  · exact ⟨_, _, _, _, _, z_ck_206⟩
  · exact ⟨_, _, _, _, _, z_ck_207⟩
  · exact ⟨_, _, _, _, _, z_ck_208⟩
  · exact ⟨_, _, _, _, _, z_ck_209⟩
  · exact ⟨_, _, _, _, _, z_ck_210⟩
  · exact ⟨_, _, _, _, _, z_ck_211⟩
  · exact ⟨_, _, _, _, _, z_ck_212⟩
  · exact ⟨_, _, _, _, _, z_ck_213⟩
  · exact ⟨_, _, _, _, _, z_ck_214⟩
  · exact ⟨_, _, _, _, _, z_ck_215⟩
  · exact ⟨_, _, _, _, _, z_ck_216⟩
  · exact ⟨_, _, _, _, _, z_ck_217⟩
  · exact ⟨_, _, _, _, _, z_ck_218⟩
  · exact ⟨_, _, _, _, _, z_ck_219⟩
theorem z_all_11 : ∀ i, 220 ≤ i → i < 240 → z_good i := by
  intro i h1 h2
  have : i = 220 ∨ i = 221 ∨ i = 222 ∨ i = 223 ∨ i = 224 ∨ i = 225 ∨ i = 226 ∨ i = 227 ∨ i = 228 ∨ i = 229 ∨ i = 230 ∨ i = 231 ∨ i = 232 ∨ i = 233 ∨ i = 234 ∨ i = 235 ∨ i = 236 ∨ i = 237 ∨ i = 238 ∨ i = 239 := by omega
  rcases this with rfl | rfl | rfl | rfl | rfl | rfl | rfl | rfl | rfl | rfl | rfl | rfl | rfl | rfl | rfl | rfl | rfl | rfl | rfl | rfl
  · exact ⟨_, _, _, _, _, z_ck_220⟩
  · exact ⟨_, _, _, _, _, z_ck_221⟩
  · exact ⟨_, _, _, _, _, z_ck_222⟩
  · exact ⟨_, _, _, _, _, z_ck_223⟩
  · exact ⟨_, _, _, _, _, z_ck_224⟩
  · exact ⟨_, _, _, _, _, z_ck_225⟩
  · exact ⟨_, _, _, _, _, z_ck_226⟩
  · exact ⟨_, _, _, _, _, z_ck_227⟩
  · exact ⟨_, _, _, _, _, z_ck_228⟩
  · exact ⟨_, _, _, _, _, z_ck_229⟩
  · exact ⟨_, _, _, _, _, z_ck_230⟩
  · exact ⟨_, _, _, _, _, z_ck_231⟩
  · exact ⟨_, _, _, _, _, z_ck_232⟩
  · exact ⟨_, _, _, _, _, z_ck_233⟩
  · exact ⟨_, _, _, _, _, z_ck_234⟩
  · exact ⟨_, _, _, _, _, z_ck_235⟩
  · exact ⟨_, _, _, _, _, z_ck_236⟩
  · exact ⟨_, _, _, _, _, z_ck_237⟩
  · exact ⟨_, _, _, _, _, z_ck_238⟩
  · exact ⟨_, _, _, _, _, z_ck_239⟩
theorem z_all_12 : ∀ i, 240 ≤ i → i < 260 → z_good i := by
  intro i h1 h2
  have : i = 240 ∨ i = 241 ∨ i = 242 ∨ i = 243 ∨ i = 244 ∨ i = 245 ∨ i = 246 ∨ i = 247 ∨ i = 248 ∨ i = 249 ∨ i = 250 ∨ i = 251 ∨ i = 252 ∨ i = 253 ∨ i = 254 ∨ i = 255 ∨ i = 256 ∨ i = 257 ∨ i = 258 ∨ i = 259 := by omega
  rcases this with rfl | rfl | rfl | rfl | rfl | rfl | rfl | rfl | rfl | rfl | rfl | rfl | rfl | rfl | rfl | rfl | rfl | rfl | rfl | rfl
  · exact ⟨_, _, _, _, _, z_ck_240⟩
  · exact ⟨_, _, _, _, _, z_ck_241⟩
  · exact ⟨_, _, _, _, _, z_ck_242⟩
  · exact ⟨_, _, _, _, _, z_ck_243⟩
  · exact ⟨_, _, _, _, _, z_ck_244⟩
  · exact ⟨_, _, _, _, _, z_ck_245⟩
  · exact ⟨_, _, _, _, _, z_ck_246⟩
  · exact ⟨_, _, _, _, _, z_ck_247⟩
  · exact ⟨_, _, _, _, _, z_ck_248⟩
  · exact ⟨_, _, _, _, _, z_ck_249⟩
  · exact ⟨_, _, _, _, _, z_ck_250⟩
  · exact ⟨_, _, _, _, _, z_ck_251⟩
  · exact ⟨_, _, _, _, _, z_ck_252⟩
  · exact ⟨_, _, _, _, _, z_ck_253⟩
  · exact ⟨_, _, _, _, _, z_ck_254⟩
  · exact ⟨_, _, _, _, _, z_ck_255⟩
  · exact ⟨_, _, _, _, _, z_ck_256⟩
  · exact ⟨_, _, _, _, _, z_ck_257⟩
  · exact ⟨_, _, _, _, _, z_ck_258⟩
  · exact ⟨_, _, _, _, _, z_ck_259⟩
theorem z_all_13 : ∀ i, 260 ≤ i → i < 280 → z_good i := by
  intro i h1 h2
  have : i = 260 ∨ i = 261 ∨ i = 262 ∨ i = 263 ∨ i = 264 ∨ i = 265 ∨ i = 266 ∨ i = 267 ∨ i = 268 ∨ i = 269 ∨ i = 270 ∨ i = 271 ∨ i = 272 ∨ i = 273 ∨ i = 274 ∨ i = 275 ∨ i = 276 ∨ i = 277 ∨ i = 278 ∨ i = 279 := by omega
  rcases this with rfl | rfl | rfl | rfl | rfl | rfl | rfl | rfl | rfl | rfl | rfl | rfl | rfl | rfl | rfl | rfl | rfl | rfl | rfl | rfl
  · exact ⟨_, _, _, _, _, z_ck_260⟩
  · exact ⟨_, _, _, _, _, z_ck_261⟩
  · exact ⟨_, _, _, _, _, z_ck_262⟩
  · exact ⟨_, _, _, _, _, z_ck_263⟩
  · exact ⟨_, _, _, _, _, z_ck_264⟩
  · exact ⟨_, _, _, _, _, z_ck_265⟩
  · exact ⟨_, _, _, _, _, z_ck_266⟩
  · exact ⟨_, _, _, _, _, z_ck_267⟩
  · exact ⟨_, _, _, _, _, z_ck_268⟩
  · exact ⟨_, _, _, _, _, z_ck_269⟩
  · exact ⟨_, _, _, _, _, z_ck_270⟩
  · exact ⟨_, _, _, _, _, z_ck_271⟩
  · exact ⟨_, _, _, _, _, z_ck_272⟩
  · exact ⟨_, _, _, _, _, z_ck_273⟩
  · exact ⟨_, _, _, _, _, z_ck_274⟩
  · exact ⟨_, _, _, _, _, z_ck_275⟩
  · exact ⟨_, _, _, _, _, z_ck_276⟩
  · exact ⟨_, _, _, _, _, z_ck_277⟩
  · exact ⟨_, _, _, _, _, z_ck_278⟩
  · exact ⟨_, _, _, _, _, z_ck_279⟩
theorem z_all_14 : ∀ i, 280 ≤ i → i < 300 → z_good i := by
  intro i h1 h2
  have : i = 280 ∨ i = 281 ∨ i = 282 ∨ i = 283 ∨ i = 284 ∨ i = 285 ∨ i = 286 ∨ i = 287 ∨ i = 288 ∨ i = 289 ∨ i = 290 ∨ i = 291 ∨ i = 292 ∨ i = 293 ∨ i = 294 ∨ i = 295 ∨ i = 296 ∨ i = 297 ∨ i = 298 ∨ i = 299 := by omega
  rcases this with rfl | rfl | rfl | rfl | rfl | rfl | rfl | rfl | rfl | rfl | rfl | rfl | rfl | rfl | rfl | rfl | rfl | rfl | rfl | rfl
  · exact ⟨_, _, _, _, _, z_ck_280⟩
  · exact ⟨_, _, _, _, _, z_ck_281⟩
  · exact ⟨_, _, _, _, _, z_ck_282⟩
  · exact ⟨_, _, _, _, _, z_ck_283⟩
  · exact ⟨_, _, _, _, _, z_ck_284⟩
  · exact ⟨_, _, _, _, _, z_ck_285⟩
  · exact ⟨_, _, _, _, _, z_ck_286⟩
  · exact ⟨_, _, _, _, _, z_ck_287⟩
  · exact ⟨_, _, _, _, _, z_ck_288⟩
  · exact ⟨_, _, _, _, _, z_ck_289⟩
  · exact ⟨_, _, _, _, _, z_ck_290⟩
  · exact ⟨_, _, _, _, _, z_ck_291⟩
  · exact ⟨_, _, _, _, _, z_ck_292⟩
  · exact ⟨_, _, _, _, _, z_ck_293⟩
  · exact ⟨_, _, _, _, _, z_ck_294⟩
  · exact ⟨_, _, _, _, _, z_ck_295⟩
  · exact ⟨_, _, _, _, _, z_ck_296⟩
  · exact ⟨_, _, _, _, _, z_ck_297⟩
  · exact ⟨_, _, _, _, _, z_ck_298⟩
  · exact ⟨_, _, _, _, _, z_ck_299⟩
theorem z_all_15 : ∀ i, 300 ≤ i → i < 318 → z_good i := by
  intro i h1 h2
  have : i = 300 ∨ i = 301 ∨ i = 302 ∨ i = 303 ∨ i = 304 ∨ i = 305 ∨ i = 306 ∨ i = 307 ∨ i = 308 ∨ i = 309 ∨ i = 310 ∨ i = 311 ∨ i = 312 ∨ i = 313 ∨ i = 314 ∨ i = 315 ∨ i = 316 ∨ i = 317 := by omega
  rcases this with rfl | rfl | rfl | rfl | rfl | rfl | rfl | rfl | rfl | rfl | rfl | rfl | rfl | rfl | rfl | rfl | rfl | rfl
  · exact ⟨_, _, _, _, _, z_ck_300⟩
  · exact ⟨_, _, _, _, _, z_ck_301⟩
  · exact ⟨_, _, _, _, _, z_ck_302⟩
  · exact ⟨_, _, _, _, _, z_ck_303⟩
  · exact ⟨_, _, _, _, _, z_ck_304⟩
  · exact ⟨_, _, _, _, _, z_ck_305⟩
  · exact ⟨_, _, _, _, _, z_ck_306⟩
  · exact ⟨_, _, _, _, _, z_ck_307⟩
  · exact ⟨_, _, _, _, _, z_ck_308⟩
  · exact ⟨_, _, _, _, _, z_ck_309⟩
  · exact ⟨_, _, _, _, _, z_ck_310⟩
  · exact ⟨_, _, _, _, _, z_ck_311⟩
  · exact ⟨_, _, _, _, _, z_ck_312⟩
  · exact ⟨_, _, _, _, _, z_ck_313⟩
  · exact ⟨_, _, _, _, _, z_ck_314⟩
  · exact ⟨_, _, _, _, _, z_ck_315⟩
  · exact ⟨_, _, _, _, _, z_ck_316⟩
  · exact ⟨_, _, _, _, _, z_ck_317⟩
theorem z_all (i : Nat) (h : i < 318) : z_good i := by
  by_cases h0 : i < 20
  · exact z_all_0 i (by omega) (by omega)
  by_cases h1 : i < 40
  · exact z_all_1 i (by omega) (by omega)
  by_cases h2 : i < 60
  · exact z_all_2 i (by omega) (by omega)
  by_cases h3 : i < 80
  · exact z_all_3 i (by omega) (by omega)
  by_cases h4 : i < 100
  · exact z_all_4 i (by omega) (by omega)
  by_cases h5 : i < 120
  · exact z_all_5 i (by omega) (by omega)
  by_cases h6 : i < 140
  · exact z_all_6 i (by omega) (by omega)
  by_cases h7 : i < 160
  · exact z_all_7 i (by omega) (by omega)
  by_cases h8 : i < 180
  · exact z_all_8 i (by omega) (by omega)
  by_cases h9 : i < 200
  · exact z_all_9 i (by omega) (by omega)
  by_cases h10 : i < 220
  · exact z_all_10 i (by omega) (by omega)
  by_cases h11 : i < 240
  · exact z_all_11 i (by omega) (by omega)
  by_cases h12 : i < 260
  · exact z_all_12 i (by omega) (by omega)
  by_cases h13 : i < 280
  · exact z_all_13 i (by omega) (by omega)
  by_cases h14 : i < 300
  · exact z_all_14 i (by omega) (by omega)
  exact z_all_15 i (by omega) (by omega)
