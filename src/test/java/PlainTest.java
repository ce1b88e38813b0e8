import java.lang.reflect.InvocationTargetException;
import java.lang.reflect.Method;
import java.util.ArrayList;
import java.util.Arrays;
import java.util.HashMap;
import java.util.List;
import java.util.Map;
import java.util.Random;

/**
 * Runs of drawn calls, each answered by the class and by a second, plain writing of the document (Plain,
 * below), which searches by going through all that can be.
 */
public final class PlainTest {
    private static final int RUNS = 400;

    public static void main(String[] args) throws Exception {
        int runs = args.length > 0 ? Integer.parseInt(args[0]) : RUNS;
        int first = args.length > 1 ? Integer.parseInt(args[1]) : 1;
        Map<String, Integer> calls = new HashMap<>();
        for (int seed = first; seed < first + runs; seed++) {
            String wrong = new Run(seed, calls).go();
            if (wrong != null) {
                System.out.println("run " + seed + ": " + wrong);
                System.exit(1);
            }
        }
        for (Method method : FareNumbers.class.getDeclaredMethods()) {
            if (java.lang.reflect.Modifier.isPublic(method.getModifiers()) && !calls.containsKey(method.getName())) {
                System.out.println("no run called " + method.getName());
                System.exit(1);
            }
        }
        System.out.println(runs + " drawn runs are answered alike");
    }

    /** One run on two new objects. */
    private static final class Run {
        private final Random random;
        private final Map<String, Integer> calls;
        private final FareNumbers subject = new FareNumbers();
        private final Plain plain = new Plain();
        private final StringBuilder told = new StringBuilder();
        private final int mostLines;
        private final boolean manyDays;
        private final boolean highNumbers;
        private int done;

        Run(int seed, Map<String, Integer> calls) {
            this.random = new Random(seed);
            this.calls = calls;
            this.mostLines = seed % 8 == 0 ? 10 : 4 + random.nextInt(5);
            this.manyDays = seed % 10 == 3;
            this.highNumbers = seed % 5 == 2;
        }

        String go() throws Exception {
            // a text takes up to 40 calls more: 512 in all at most
            int most = 100 + random.nextInt(370);
            while (done < most) {
                String wrong = step();
                if (wrong != null) {
                    return wrong;
                }
            }
            return null;
        }

        private String step() throws Exception {
            int kind = random.nextInt(100);
            if (kind < 10) {
                return text();
            }
            if (kind < 20) {
                return edge();
            }
            if (kind < 55) {
                return act();
            }
            return ask();
        }

        private String act() throws Exception {
            if (highNumbers && random.nextInt(3) == 0) {
                return random.nextInt(3) == 0 ? call("mend") : call("plate", pick(7), random.nextBoolean() ? pick(25) : 70 + pick(30));
            }
            switch (random.nextInt(manyDays ? 16 : 13)) {
                case 0: case 1:
                    if (plain.w.lines.size() >= mostLines) {
                        return null;
                    }
                    return call("lay", pick(7), pick(7));
                case 2: case 3:
                    return call("plate", pick(7), random.nextInt(3) != 0 ? pick(12) : random.nextBoolean() ? pick(100) : 60 + pick(40));
                case 4:
                    return call("turn", pick(10));
                case 5:
                    return call("grant", 1 + pick(99));
                case 6:
                    return call("day", 1 + pick(random.nextInt(5) == 0 ? 60 : 5));
                case 7:
                    return call("years", random.nextInt(9) == 0 ? pick(10000) : pick(100), 1 + pick(40));
                case 8:
                    return call("undo");
                case 9:
                    return call("by", pick(5) - 1);
                case 10:
                    return call("played", pick(4));
                case 11:
                    return random.nextInt(6) == 0 ? call("said", -1, pick(11)) : call("said", pick(10), pick(11));
                case 12:
                    return random.nextInt(4) != 0 ? null : random.nextBoolean() ? call("image") : call("back");
                default:
                    return call("day", 60);
            }
        }

        private String ask() throws Exception {
            String[] names = {"fault", "of", "ofHalt", "costs", "is", "book", "foretold", "fair", "left", "twin",
                "whole", "wholes", "span", "apart", "alike", "alikes", "unlike", "band", "total", "mend", "names",
                "parts", "cuts", "game", "mark", "ride", "change", "whose", "dearest", "highest", "ledger", "about"};
            switch (names[random.nextInt(names.length)]) {
                case "fault": return call("fault", pick(2));
                case "of": return call("of", pick(10), pick(5));
                case "ofHalt": return call("ofHalt", pick(7), pick(2));
                case "costs": return call("costs", pick(7), pick(100));
                case "is": return call("is", pick(5));
                case "book": return call("book", pick(27) - 1, pick(4));
                case "foretold": return call("foretold", 1 + pick(60));
                case "fair": return call("fair");
                case "left": return call("left");
                case "twin": return call("twin", random.nextBoolean());
                case "whole": return call("whole", pick(7));
                case "wholes": return call("wholes");
                case "span": return call("span", pick(8) - 1);
                case "apart": return call("apart", pick(4), pick(4), pick(8) - 1);
                case "alike": return call("alike", pick(11) - 1);
                case "alikes": return call("alikes");
                case "unlike": return call("unlike", pick(10));
                case "band": return call("band", pick(8) - 1);
                case "total": return call("total");
                case "mend": return call("mend");
                case "names": return call("names");
                case "parts": return call("parts");
                case "cuts": return call("cuts");
                case "game": return call("game", random.nextInt(3) == 0 ? 0 : pick(128));
                case "mark": return call("mark", random.nextInt(3) == 0 ? 0 : pick(128));
                case "ride": return call("ride", pick(7), pick(7));
                case "change": return call("change", pick(7), pick(7), pick(7));
                case "whose": return call("whose");
                case "dearest": return call("dearest");
                case "highest": return call("highest");
                case "ledger": return call("ledger", pick(3));
                default: return call("about", pick(6));
            }
        }

        /** A call with numbers that are often beyond what the document tells. */
        private String edge() throws Exception {
            Method[] methods = FareNumbers.class.getDeclaredMethods();
            List<Method> open = new ArrayList<>();
            for (Method method : methods) {
                String name = method.getName();
                boolean costly = name.equals("lay") && plain.w.lines.size() >= mostLines;
                boolean seldom = (name.equals("image") || name.equals("back")) && random.nextInt(5) != 0;
                if (java.lang.reflect.Modifier.isPublic(method.getModifiers()) && !costly && !seldom) {
                    open.add(method);
                }
            }
            open.sort((a, b) -> a.getName().compareTo(b.getName()));
            Method method = open.get(random.nextInt(open.size()));
            Object[] with = new Object[method.getParameterCount()];
            for (int i = 0; i < with.length; i++) {
                boolean isBoolean = method.getParameterTypes()[i] == boolean.class;
                with[i] = isBoolean ? (Object) random.nextBoolean() : (Object) odd();
            }
            return call(method.getName(), with);
        }

        private int odd() {
            int[] odds = {-1, -2, 0, 1, 2, 3, 4, 5, 6, 7, 8, 9, 10, 11, 20, 24, 25, 26, 40, 41, 60, 61, 99, 100, 127, 128,
                299, 300, 301, 9999, 10000, Integer.MAX_VALUE, Integer.MIN_VALUE, Integer.MAX_VALUE - 1, 1 << 30, 65536};
            return random.nextInt(3) == 0 ? random.nextInt() : odds[random.nextInt(odds.length)];
        }

        private int pick(int n) {
            return random.nextInt(n);
        }

        private String text() throws Exception {
            String text = new Texts(random).draw();
            String wrong = call("end", 0);
            for (int at = 0; at < text.length() && wrong == null; at += 20) {
                int[] fives = new int[5];
                for (int i = 0; i < 20; i++) {
                    int sign = at + i < text.length() ? text.charAt(at + i) : random.nextInt(256);
                    fives[i / 4] |= sign << 24 - i % 4 * 8;
                }
                wrong = call("feed", fives[0], fives[1], fives[2], fives[3], fives[4]);
            }
            wrong = wrong != null ? wrong : call("end", Math.min(text.length(), plain.tape.size()));
            wrong = wrong != null ? wrong : call("text");
            wrong = wrong != null ? wrong : call("fault", 0);
            wrong = wrong != null ? wrong : call("fault", 1);
            wrong = wrong != null || random.nextBoolean() ? wrong : laws();
            return wrong == null ? null : wrong + " of {" + text + "}";
        }

        /** What the TEXT that was told latest says of all LINES, and of some numbers of all HALTS. */
        private String laws() throws Exception {
            String wrong = call("by", plain.w.texts.size() - 1);
            for (int line = 0; line < plain.w.lines.size() && wrong == null; line++) {
                wrong = call("of", line, 4);
            }
            for (int halt = 0; halt < 7 && wrong == null; halt++) {
                wrong = call("costs", halt, pick(100));
            }
            return wrong;
        }

        private String call(String name, Object... with) throws Exception {
            done++;
            calls.merge(name, 1, Integer::sum);
            Class<?>[] types = new Class<?>[with.length];
            for (int i = 0; i < with.length; i++) {
                types[i] = with[i] instanceof Boolean ? boolean.class : int.class;
            }
            long got = answer(FareNumbers.class.getMethod(name, types), subject, with);
            long due = answer(Plain.class.getMethod(name, types), plain, with);
            told.append(name).append(Arrays.toString(with)).append(" ").append(due).append("\n");
            if (got == due) {
                return null;
            }
            return name + Arrays.toString(with) + " answered " + got + ", due is " + due + ", behind\n" + told
                + "LINES " + plain.net() + "\n";
        }

        private static long answer(Method method, Object on, Object[] with) throws Exception {
            try {
                Object answer = method.invoke(on, with);
                return answer instanceof Boolean ? ((Boolean) answer ? 1 : 0) : ((Number) answer).longValue();
            } catch (InvocationTargetException e) {
                throw new IllegalStateException(method + Arrays.toString(with), e.getCause());
            }
        }
    }

    /** Texts that are good, nearly good or bad. */
    private static final class Texts {
        private final Random random;

        Texts(Random random) {
            this.random = random;
        }

        String draw() {
            StringBuilder text = new StringBuilder();
            if (random.nextInt(12) == 0) {
                int many = 20 + random.nextInt(8);
                for (int i = 0; i < many; i++) {
                    text.append(random.nextInt(8) == 0 ? "rides 1;" : random.nextBoolean() ? "day 1;" : "turn 0;");
                }
            } else {
                int many = random.nextInt(7);
                boolean rides = false;
                boolean costs = false;
                for (int i = 0; i < many; i++) {
                    int kind = random.nextInt(9);
                    if (kind < 2 && (!rides || random.nextInt(9) == 0)) {
                        text.append("rides ").append(sum(0, true)).append(";");
                        rides = true;
                    } else if (kind < 4 && (!costs || random.nextInt(9) == 0)) {
                        text.append("costs ").append(sum(0, false)).append(";");
                        costs = true;
                    } else {
                        text.append(doing(kind)).append(random.nextInt(4) == 0 ? " ;\n" : ";");
                    }
                }
            }
            if (random.nextInt(3) == 0) {
                spoil(text);
            }
            return text.length() <= 300 ? text.toString() : text.substring(0, random.nextInt(301));
        }

        private void spoil(StringBuilder text) {
            String signs = "0123456789abdefghilnoprstuw ;()<>=#+-*/\n\tA\u00e9\u0000{";
            int many = 1 + random.nextInt(2);
            for (int i = 0; i < many; i++) {
                int at = random.nextInt(text.length() + 1);
                String[] bits = {"if", "then", "else", "end", "and", "or", "not", "fare", "sign", "99999", "10000", "9999",
                    "old", "diff", "low", "beside", "day", "rides", "costs", " ", ";", "(", "- ", "61", "100", "<=", "0007"};
                String bit = random.nextBoolean() ? bits[random.nextInt(bits.length)]
                    : String.valueOf(signs.charAt(random.nextInt(signs.length())));
                int kind = random.nextInt(3);
                if (kind == 0 || text.length() == 0) {
                    text.insert(at, bit);
                } else if (kind == 1) {
                    text.deleteCharAt(Math.min(at, text.length() - 1));
                } else {
                    text.replace(Math.min(at, text.length() - 1), Math.min(at + 1, text.length()), bit);
                }
            }
        }

        private String doing(int kind) {
            switch (kind) {
                case 4: return "lay " + random.nextInt(7) + " to " + random.nextInt(7);
                case 5: case 0: return "plate " + random.nextInt(100) + " at " + random.nextInt(7);
                case 6: return "turn " + random.nextInt(10);
                case 7: return "grant " + (1 + random.nextInt(99));
                default: return "day " + (1 + random.nextInt(random.nextInt(4) == 0 ? 60 : 3));
            }
        }

        private String sum(int depth, boolean rides) {
            StringBuilder sum = new StringBuilder(product(depth, rides));
            while (random.nextInt(3) == 0) {
                sum.append(random.nextBoolean() ? "+" : random.nextBoolean() ? " - " : "-").append(product(depth, rides));
            }
            return sum.toString();
        }

        private String product(int depth, boolean rides) {
            StringBuilder product = new StringBuilder(one(depth, rides));
            while (random.nextInt(4) == 0) {
                product.append(random.nextBoolean() ? "*" : "/").append(one(depth, rides));
            }
            return product.toString();
        }

        private String one(int depth, boolean rides) {
            int kind = random.nextInt(depth > 9 ? 6 : depth > 4 ? 9 : 13);
            switch (kind) {
                case 0: case 1: return String.valueOf(random.nextInt(14));
                case 2: return String.valueOf(random.nextInt(10000));
                case 3: case 4: case 5:
                    String[] ofRides = {"day", "which", "fund", "open", "diff", "low", "high"};
                    String[] ofCosts = {"day", "which", "fund", "open", "old", "new", "beside"};
                    String[] names = rides == (random.nextInt(60) != 0) ? ofRides : ofCosts;
                    return names[random.nextInt(names.length)];
                case 6: return "(" + sum(depth + 1, rides) + ")";
                case 7: return "fare " + one(depth + 1, rides);
                case 8: return "sign " + one(depth + 1, rides);
                case 9: return "-" + one(depth + 1, rides);
                case 10: return "(" + sum(depth + 1, rides) + " )";
                default:
                    return "if " + either(depth + 1, rides) + " then " + sum(depth + 1, rides) + " else "
                        + sum(depth + 1, rides) + " end";
            }
        }

        private String either(int depth, boolean rides) {
            StringBuilder either = new StringBuilder(ask(depth, rides));
            while (random.nextInt(3) == 0) {
                either.append(random.nextBoolean() ? " or " : " and ").append(ask(depth, rides));
            }
            return either.toString();
        }

        private String ask(int depth, boolean rides) {
            if (random.nextInt(5) == 0) {
                return "not " + ask(depth + 1, rides);
            }
            String[] signs = {"<", "<=", ">", ">=", "=", "#"};
            return sum(depth + 1, rides) + signs[random.nextInt(6)] + sum(depth + 1, rides);
        }
    }

    /** The document once more, by the plainest means. */
    public static final class Plain {
        World w = new World();
        World image = new World();
        final List<Integer> tape = new ArrayList<>();
        private int fault = -1;
        private int place = -1;

        static final class Step {
            int[] numbers = new int[7];
            int fund = 50;
            int day = 0;
            int x = 439;
            List<int[]> book = new ArrayList<>();
            List<Boolean> open = new ArrayList<>();

            Step copy() {
                Step copy = new Step();
                copy.numbers = numbers.clone();
                copy.fund = fund;
                copy.day = day;
                copy.x = x;
                copy.book.addAll(book);
                copy.open.addAll(open);
                return copy;
            }
        }

        static final class World {
            Step now = new Step();
            List<int[]> lines = new ArrayList<>();
            List<Law> texts = new ArrayList<>();
            int ruling = -1;
            List<Step> steps = new ArrayList<>();
            List<int[]> said = new ArrayList<>();

            World copy() {
                World copy = new World();
                copy.now = now.copy();
                copy.lines.addAll(lines);
                copy.texts.addAll(texts);
                copy.ruling = ruling;
                for (Step step : steps) {
                    copy.steps.add(step.copy());
                }
                copy.said.addAll(said);
                return copy;
            }
        }

        interface Value {
            long in(Plain plain, int which, int other);
        }

        static final class Law {
            Value rides;
            Value costs;
            List<Object[]> clauses = new ArrayList<>();
        }

        static final class Fault extends RuntimeException {
            final int number;
            final int at;

            Fault(int number, int at) {
                this.number = number;
                this.at = at;
            }
        }

        static final class Token {
            String sign;
            int at;
            boolean word;
            boolean digits;

            boolean is(String other) {
                return sign.equals(other);
            }
        }

        String net() {
            StringBuilder told = new StringBuilder();
            for (int i = 0; i < w.lines.size(); i++) {
                told.append(Arrays.toString(w.lines.get(i))).append(w.now.open.get(i) ? " " : "x ");
            }
            return told + Arrays.toString(w.now.numbers);
        }

        private boolean isHalt(int halt) {
            return halt >= 0 && halt <= 6;
        }

        private boolean isLine(int line) {
            return line >= 0 && line < w.lines.size();
        }

        private boolean isOpen(int line) {
            return isLine(line) && w.now.open.get(line);
        }

        private int fareOf(int line) {
            int[] ends = w.lines.get(line);
            return Math.abs(w.now.numbers[ends[0]] - w.now.numbers[ends[1]]);
        }

        private boolean beside(int a, int b) {
            for (int line = 0; line < w.lines.size(); line++) {
                int[] ends = w.lines.get(line);
                if (isOpen(line) && (ends[0] == a && ends[1] == b || ends[0] == b && ends[1] == a)) {
                    return true;
                }
            }
            return false;
        }

        private int howManyBeside(int halt) {
            int many = 0;
            for (int other = 0; other < 7; other++) {
                many += beside(halt, other) ? 1 : 0;
            }
            return many;
        }

        private List<Integer> openLines() {
            List<Integer> open = new ArrayList<>();
            for (int line = 0; line < 10; line++) {
                if (isOpen(line)) {
                    open.add(line);
                }
            }
            return open;
        }

        private List<Integer> haltsWithAny() {
            List<Integer> halts = new ArrayList<>();
            for (int halt = 0; halt < 7; halt++) {
                if (howManyBeside(halt) > 0) {
                    halts.add(halt);
                }
            }
            return halts;
        }

        public int lay(int a, int b) {
            if (!isHalt(a) || !isHalt(b) || a == b || w.lines.size() == 10) {
                return -1;
            }
            for (int[] ends : w.lines) {
                if (Math.min(a, b) == Math.min(ends[0], ends[1]) && Math.max(a, b) == Math.max(ends[0], ends[1])) {
                    return -1;
                }
            }
            w.lines.add(new int[] {a, b});
            w.now.open.add(true);
            return w.lines.size() - 1;
        }

        public int feed(int a, int b, int c, int d, int e) {
            if (tape.size() > 280) {
                return -1;
            }
            for (int four : new int[] {a, b, c, d, e}) {
                tape.add(four >>> 24);
                tape.add(four >>> 16 & 255);
                tape.add(four >>> 8 & 255);
                tape.add(four & 255);
            }
            return tape.size();
        }

        public int end(int n) {
            if (n < 0 || n > tape.size()) {
                return -1;
            }
            while (tape.size() > n) {
                tape.remove(tape.size() - 1);
            }
            return n;
        }

        public int text() {
            if (w.texts.size() == 4) {
                return -1;
            }
            StringBuilder signs = new StringBuilder();
            for (int sign : tape) {
                signs.append((char) sign);
            }
            tape.clear();
            try {
                w.texts.add(new Parser(signs.toString()).law());
                fault = 0;
                place = -1;
                return w.texts.size() - 1;
            } catch (Fault found) {
                fault = found.number;
                place = found.at;
                return -1;
            }
        }

        public int fault(int what) {
            return fault < 0 ? -1 : what == 0 ? fault : what == 1 ? place : -1;
        }

        public boolean by(int text) {
            if (text < -1 || text >= w.texts.size()) {
                return false;
            }
            w.ruling = text;
            return true;
        }

        private Law theText() {
            return w.ruling < 0 ? null : w.texts.get(w.ruling);
        }

        private int ridesBy(Law law, int line) {
            long value = law == null || law.rides == null ? 5 : law.rides.in(this, line, 0);
            return (int) Math.min(10, Math.max(0, value));
        }

        private int costsNow(int halt, int number) {
            Law law = theText();
            long value = law == null || law.costs == null ? 1 : law.costs.in(this, halt, number);
            return (int) Math.min(99, Math.max(0, value));
        }

        private void keep() {
            w.steps.add(w.now.copy());
            if (w.steps.size() > 30) {
                w.steps.remove(0);
            }
        }

        private void write(int... line) {
            w.now.book.add(line);
            if (w.now.book.size() > 25) {
                w.now.book.remove(0);
            }
        }

        public int plate(int halt, int number) {
            if (!canPlate(halt, number)) {
                return -1;
            }
            keep();
            return doPlate(halt, number);
        }

        private boolean canPlate(int halt, int number) {
            return isHalt(halt) && number >= 0 && number <= 99 && w.now.numbers[halt] != number
                && w.now.fund >= costsNow(halt, number);
        }

        private int doPlate(int halt, int number) {
            int costs = costsNow(halt, number);
            w.now.fund -= costs;
            w.now.numbers[halt] = number;
            write(w.now.day, 0, halt, number);
            return costs;
        }

        public boolean turn(int line) {
            if (!isLine(line)) {
                return false;
            }
            keep();
            doTurn(line);
            return true;
        }

        private void doTurn(int line) {
            w.now.open.set(line, !w.now.open.get(line));
            write(w.now.day, 1, line, w.now.open.get(line) ? 1 : 0);
        }

        public boolean grant(int pounds) {
            if (pounds < 1 || pounds > 99 || w.now.fund + pounds > 99999) {
                return false;
            }
            keep();
            w.now.fund += pounds;
            return true;
        }

        private int doDay() {
            int came = 0;
            for (int line : openLines()) {
                int draw = w.now.x % 10;
                w.now.x = (w.now.x * 691 + 569) % 31013;
                if (draw < ridesBy(theText(), line)) {
                    came += fareOf(line);
                    w.now.fund = Math.min(99999, w.now.fund + fareOf(line));
                    write(w.now.day, 2, line, fareOf(line));
                }
            }
            w.now.day++;
            return came;
        }

        public int day(int n) {
            if (n < 1 || n > 60 || w.now.day + n > 9999) {
                return -1;
            }
            int came = 0;
            for (int i = 0; i < n; i++) {
                keep();
                came += doDay();
            }
            return came;
        }

        public int played(int text) {
            if (text < 0 || text >= w.texts.size()) {
                return -2;
            }
            List<Object[]> clauses = w.texts.get(text).clauses;
            for (int i = 0; i < clauses.size(); i++) {
                Object[] clause = clauses.get(i);
                int a = (Integer) clause[1];
                int b = (Integer) clause[2];
                boolean can = true;
                switch ((String) clause[0]) {
                    case "lay": can = lay(a, b) >= 0; break;
                    case "plate": can = plate(b, a) >= 0; break;
                    case "turn": can = turn(a); break;
                    case "grant": can = grant(a); break;
                    case "day":
                        int days = Math.min(a, 9999 - w.now.day);
                        can = days == a;
                        if (days > 0) {
                            day(days);
                        }
                        break;
                    default:
                }
                if (!can) {
                    return i;
                }
            }
            return -1;
        }

        public int years(int seed, int n) {
            if (seed < 0 || seed > 9999 || n < 1 || n > 40) {
                return -1;
            }
            keep();
            w.now.x = 2 * seed + 439;
            for (int i = 0; i < n; i++) {
                int x = w.now.x;
                w.now.x = (w.now.x * 691 + 569) % 31013;
                if (x % 6 == 0 && canPlate(x / 6 % 7, x % 20)) {
                    doPlate(x / 6 % 7, x % 20);
                } else if (x % 6 == 1 && x % 4 == 3 && isLine(x / 6 % 10)) {
                    doTurn(x / 6 % 10);
                } else if (x % 6 == 2 && w.now.fund + 1 + x / 6 % 9 <= 99999) {
                    w.now.fund += 1 + x / 6 % 9;
                } else if (x % 6 >= 3 && w.now.day < 9999) {
                    doDay();
                }
            }
            return w.now.day;
        }

        public int undo() {
            if (w.steps.isEmpty()) {
                return -1;
            }
            w.now = w.steps.remove(w.steps.size() - 1);
            while (w.now.open.size() < w.lines.size()) {
                w.now.open.add(true);
            }
            return w.steps.size();
        }

        public int of(int line, int what) {
            if (!isLine(line)) {
                return -1;
            }
            switch (what) {
                case 0: return w.lines.get(line)[0];
                case 1: return w.lines.get(line)[1];
                case 2: return fareOf(line);
                case 3: return isOpen(line) ? 1 : 0;
                case 4: return ridesBy(theText(), line);
                default: return -1;
            }
        }

        public int ofHalt(int halt, int what) {
            if (!isHalt(halt) || what != 0 && what != 1) {
                return -1;
            }
            int bits = 0;
            for (int other = 0; other < 7; other++) {
                bits |= beside(halt, other) ? 1 << other : 0;
            }
            return what == 0 ? w.now.numbers[halt] : bits;
        }

        public int costs(int halt, int number) {
            return isHalt(halt) && number >= 0 && number <= 99 ? costsNow(halt, number) : -100;
        }

        public int is(int what) {
            int bits = 0;
            int fares = 0;
            for (int line : openLines()) {
                bits += 1 << line;
                fares += fareOf(line);
            }
            switch (what) {
                case 0: return w.now.day;
                case 1: return w.now.x;
                case 2: return w.now.fund;
                case 3: return bits;
                case 4: return fares;
                default: return -2;
            }
        }

        public int book(int i, int what) {
            if (i == -1) {
                return w.now.book.size();
            }
            return i < 0 || i >= w.now.book.size() || what < 0 || what > 3 ? -2 : w.now.book.get(i)[what];
        }

        public int foretold(int n) {
            if (n < 1 || n > 60) {
                return -1;
            }
            World kept = w.copy();
            for (int i = 0; i < n && w.now.day < 9999; i++) {
                doDay();
            }
            int fund = w.now.fund;
            w = kept;
            return fund;
        }

        public boolean fair() {
            List<Integer> seen = new ArrayList<>();
            for (int line : openLines()) {
                if (fareOf(line) == 0 || seen.contains(fareOf(line))) {
                    return false;
                }
                seen.add(fareOf(line));
            }
            return true;
        }

        public int left() {
            int bits = 0;
            for (int fare = 1; fare <= openLines().size(); fare++) {
                boolean has = false;
                for (int line : openLines()) {
                    has |= fareOf(line) == fare;
                }
                bits += has ? 0 : 1 << fare - 1;
            }
            return openLines().isEmpty() ? -1 : bits;
        }

        public int twin(boolean second) {
            for (int a : openLines()) {
                for (int b : openLines()) {
                    if (b > a && fareOf(a) == fareOf(b)) {
                        return second ? b : a;
                    }
                }
            }
            return -1;
        }

        /** Rows of numbers (or places) for HALTS, HALT by HALT: the first one, and how many. */
        private final class Rows {
            final int[] row = new int[7];
            int[] first;
            long ways;
            boolean all;
            int top;
            boolean unlike;
            boolean unlikeFares;
            int near;
            int far;
            int band = 1000;
            final List<Integer> halts = haltsWithAny();
            final boolean[][] beside = new boolean[7][7];
            final boolean[][] overTwo = new boolean[7][7];

            Rows() {
                for (int a = 0; a < 7; a++) {
                    for (int b = 0; b < 7; b++) {
                        beside[a][b] = beside(a, b);
                    }
                }
                for (int a = 0; a < 7; a++) {
                    for (int b = 0; b < 7; b++) {
                        for (int c = 0; c < 7; c++) {
                            overTwo[a][b] |= a != b && !beside[a][b] && beside[a][c] && beside[c][b];
                        }
                    }
                }
            }

            boolean go() {
                first = null;
                ways = 0;
                go(0, new boolean[200]);
                return first != null;
            }

            private void go(int i, boolean[] fares) {
                if (first != null && !all) {
                    return;
                }
                if (i == halts.size()) {
                    ways++;
                    first = first == null ? row.clone() : first;
                    return;
                }
                for (int value = 0; value <= top; value++) {
                    boolean[] with = fares.clone();
                    if (fits(i, value, with)) {
                        row[halts.get(i)] = value;
                        go(i + 1, with);
                    }
                }
            }

            private boolean fits(int i, int value, boolean[] fares) {
                int halt = halts.get(i);
                for (int j = 0; j < i; j++) {
                    int other = halts.get(j);
                    int differ = Math.abs(value - row[other]);
                    if (unlike && differ == 0 || overTwo[halt][other] && differ < far) {
                        return false;
                    }
                    if (beside[halt][other]) {
                        if (differ < near || differ > band || unlikeFares && fares[differ]) {
                            return false;
                        }
                        fares[differ] = true;
                    }
                }
                return true;
            }

            /** HALTS beside none are left aside: what is told of them is 0, whatever their NUMBER is. */
            int told(int halt) {
                return halts.contains(halt) ? first[halt] : 0;
            }

            /** For the least top. */
            void goUp() {
                top = 0;
                while (!go()) {
                    top++;
                }
            }
        }

        private Rows wholeRows() {
            Rows rows = new Rows();
            rows.top = openLines().size();
            rows.unlike = true;
            rows.unlikeFares = true;
            return rows;
        }

        public int whole(int halt) {
            if (!isHalt(halt)) {
                return -1;
            }
            Rows rows = wholeRows();
            return rows.go() ? rows.told(halt) : -1;
        }

        public long wholes() {
            Rows rows = wholeRows();
            rows.all = true;
            rows.go();
            return rows.ways;
        }

        public int span(int halt) {
            if (halt != -1 && !isHalt(halt)) {
                return -1;
            }
            Rows rows = wholeRows();
            rows.goUp();
            return halt == -1 ? rows.top : rows.told(halt);
        }

        public int apart(int near, int far, int halt) {
            if (near < 0 || near > 3 || far < 0 || far > 3 || halt != -1 && !isHalt(halt)) {
                return -1;
            }
            Rows rows = new Rows();
            rows.near = near;
            rows.far = far;
            rows.goUp();
            return halt == -1 ? rows.top : rows.told(halt);
        }

        public int band(int halt) {
            if (halt != -1 && !isHalt(halt)) {
                return -1;
            }
            Rows rows = new Rows();
            rows.unlike = true;
            rows.top = rows.halts.size() - 1;
            rows.band = 0;
            while (!rows.go()) {
                rows.band++;
            }
            return halt == -1 ? rows.band : rows.told(halt);
        }

        /** Weights for OPEN LINES, LINE by LINE. */
        private final class Sums {
            final List<Integer> open = openLines();
            final List<Integer> halts = haltsWithAny();
            final boolean alike;
            final boolean all;
            final int[] weights = new int[10];
            final int[] sums = new int[7];
            final int[] lacks = new int[7];
            int[] first;
            int sum;
            long ways;

            Sums(boolean alike, boolean all) {
                this.alike = alike;
                this.all = all;
                for (int line : open) {
                    lacks[w.lines.get(line)[0]]++;
                    lacks[w.lines.get(line)[1]]++;
                }
                go(0, 0);
            }

            private void go(int i, int used) {
                if (first != null && !all) {
                    return;
                }
                if (i == open.size()) {
                    ways++;
                    if (first == null) {
                        first = weights.clone();
                        sum = halts.isEmpty() ? 0 : sums[halts.get(0)];
                    }
                    return;
                }
                int[] ends = w.lines.get(open.get(i));
                for (int weight = 1; weight <= open.size(); weight++) {
                    if ((used >> weight & 1) != 0) {
                        continue;
                    }
                    weights[open.get(i)] = weight;
                    for (int end : ends) {
                        sums[end] += weight;
                        lacks[end]--;
                    }
                    if (canBe()) {
                        go(i + 1, used | 1 << weight);
                    }
                    for (int end : ends) {
                        sums[end] -= weight;
                        lacks[end]++;
                    }
                }
            }

            private boolean canBe() {
                for (int a : halts) {
                    for (int b : halts) {
                        if (a < b && lacks[a] == 0 && lacks[b] == 0 && (sums[a] == sums[b]) != alike) {
                            return false;
                        }
                        if (alike && lacks[a] == 0 && sums[b] > sums[a]) {
                            return false;
                        }
                    }
                }
                return true;
            }
        }

        public int alike(int line) {
            if (line != -1 && !isOpen(line)) {
                return -1;
            }
            Sums sums = new Sums(true, false);
            return sums.first == null ? -1 : line == -1 ? sums.sum : sums.first[line];
        }

        public long alikes() {
            return new Sums(true, true).ways;
        }

        public int unlike(int line) {
            if (!isOpen(line)) {
                return -1;
            }
            Sums sums = new Sums(false, false);
            return sums.first == null ? -1 : sums.first[line];
        }

        private interface Row {
            void take(int[] row);
        }

        private static void rows(int[] row, int i, int used, Row each) {
            if (i == row.length) {
                each.take(row);
                return;
            }
            for (int value = 0; value < row.length; value++) {
                if ((used >> value & 1) == 0) {
                    row[i] = value;
                    rows(row, i + 1, used | 1 << value, each);
                }
            }
        }

        public int total() {
            List<Integer> halts = haltsWithAny();
            int[] least = {Integer.MAX_VALUE};
            rows(new int[halts.size()], 0, 0, row -> {
                int fares = 0;
                for (int line : openLines()) {
                    int[] ends = w.lines.get(line);
                    fares += Math.abs(row[halts.indexOf(ends[0])] - row[halts.indexOf(ends[1])]);
                }
                least[0] = Math.min(least[0], fares);
            });
            return least[0];
        }

        public int mend() {
            int best = -1;
            for (int set = 0; set < 128; set++) {
                if (best < 0 || Integer.bitCount(set) < Integer.bitCount(best)) {
                    if (mends(set, 0, w.now.numbers.clone())) {
                        best = set;
                    }
                }
            }
            return best;
        }

        private boolean mends(int set, int halt, int[] numbers) {
            List<Integer> seen = new ArrayList<>();
            for (int line : openLines()) {
                int[] ends = w.lines.get(line);
                boolean known = true;
                for (int end : ends) {
                    known &= (set >> end & 1) == 0 || end < halt;
                }
                if (known) {
                    int fare = Math.abs(numbers[ends[0]] - numbers[ends[1]]);
                    if (fare == 0 || seen.contains(fare)) {
                        return false;
                    }
                    seen.add(fare);
                }
            }
            if (halt == 7) {
                return true;
            }
            if ((set >> halt & 1) == 0) {
                return mends(set, halt + 1, numbers);
            }
            for (int number = 0; number <= 20; number++) {
                if (number != w.now.numbers[halt]) {
                    int[] with = numbers.clone();
                    with[halt] = number;
                    if (mends(set, halt + 1, with)) {
                        return true;
                    }
                }
            }
            return false;
        }

        public int names() {
            boolean[][] is = new Rows().beside;
            int[] ways = {0};
            rows(new int[7], 0, 0, row -> {
                for (int a = 0; a < 7; a++) {
                    for (int b = 0; b < a; b++) {
                        if (is[a][b] != is[row[a]][row[b]]) {
                            return;
                        }
                    }
                }
                ways[0]++;
            });
            return ways[0];
        }

        public int parts() {
            return parts(-1);
        }

        private int parts(int without) {
            int[] part = {0, 1, 2, 3, 4, 5, 6};
            int parts = 7;
            for (int line : openLines()) {
                int a = part[w.lines.get(line)[0]];
                int b = part[w.lines.get(line)[1]];
                if (line == without || a == b) {
                    continue;
                }
                parts--;
                for (int i = 0; i < 7; i++) {
                    part[i] = part[i] == a ? b : part[i];
                }
            }
            return parts;
        }

        public int cuts() {
            int bits = 0;
            for (int line : openLines()) {
                bits += parts(line) > parts(-1) ? 1 << line : 0;
            }
            return bits;
        }

        public int game(int marked) {
            return marked < 0 || marked > 127 ? -1 : mark(marked) >= 0 ? 1 : 0;
        }

        public int mark(int marked) {
            if (marked < 0 || marked > 127) {
                return -1;
            }
            for (int halt = 0; halt < 7; halt++) {
                if ((marked >> halt & 1) == 0 && (ofHalt(halt, 1) & marked) == 0 && mark(marked | 1 << halt) < 0) {
                    return halt;
                }
            }
            return -1;
        }

        /** All ways from one HALT to another: the best of them. */
        private List<Integer> way(List<Integer> yet, int b) {
            int at = yet.get(yet.size() - 1);
            if (at == b) {
                return new ArrayList<>(yet);
            }
            List<Integer> best = null;
            for (int next = 0; next < 7; next++) {
                if (!yet.contains(next) && beside(at, next)) {
                    yet.add(next);
                    List<Integer> found = way(yet, b);
                    yet.remove(yet.size() - 1);
                    if (found != null && (best == null || fares(found) < fares(best)
                        || fares(found) == fares(best) && found.size() < best.size())) {
                        best = found;
                    }
                }
            }
            return best;
        }

        private int fares(List<Integer> way) {
            int fares = 0;
            for (int i = 1; i < way.size(); i++) {
                fares += Math.abs(w.now.numbers[way.get(i)] - w.now.numbers[way.get(i - 1)]);
            }
            return fares;
        }

        public int ride(int a, int b) {
            if (!isHalt(a) || !isHalt(b)) {
                return -1;
            }
            List<Integer> way = way(new ArrayList<>(List.of(a)), b);
            return way == null ? -1 : fares(way);
        }

        public int change(int a, int b, int i) {
            if (!isHalt(a) || !isHalt(b) || i < 0) {
                return -2;
            }
            List<Integer> way = way(new ArrayList<>(List.of(a)), b);
            return way == null || i >= way.size() ? -2 : way.get(i);
        }

        public int said(int line, int rides) {
            if (line == -1) {
                w.said.clear();
                return 0;
            }
            if (!isLine(line) || rides < 0 || rides > 10 || w.said.size() == 8) {
                return -2;
            }
            w.said.add(new int[] {line, rides});
            return w.said.size();
        }

        public int whose() {
            int bits = 0;
            for (int text = 0; text < w.texts.size(); text++) {
                boolean so = true;
                for (int[] said : w.said) {
                    so &= ridesBy(w.texts.get(text), said[0]) == said[1];
                }
                bits += so ? 1 << text : 0;
            }
            return bits;
        }

        public int dearest() {
            int best = -1;
            for (int line : openLines()) {
                best = best < 0 || fareOf(line) > fareOf(best) ? line : best;
            }
            return best;
        }

        public int highest() {
            int best = 0;
            for (int halt = 0; halt < 7; halt++) {
                best = w.now.numbers[halt] > w.now.numbers[best] ? halt : best;
            }
            return best;
        }

        public int ledger(int what) {
            if (what < 0 || what > 2) {
                return -2;
            }
            int many = 0;
            for (int[] line : w.now.book) {
                many += line[1] == what ? 1 : 0;
            }
            return many;
        }

        public int image() {
            image = w.copy();
            return w.now.day;
        }

        public int back() {
            w = image.copy();
            return w.now.day;
        }

        public int about(int what) {
            switch (what) {
                case 0: return w.lines.size();
                case 1: return w.texts.size();
                case 2: return w.ruling;
                case 3: return w.steps.size();
                case 4: return w.said.size();
                case 5: return tape.size();
                default: return -2;
            }
        }

        static long held(long value) {
            return Math.max(-1000000, Math.min(1000000, value));
        }

        /** A text to a tree; all TOKENS are made ahead. */
        private static final class Parser {
            private final List<Token> tokens = new ArrayList<>();
            private int i;
            private boolean rides;
            private int open;

            Parser(String text) {
                int at = 0;
                while (at < text.length()) {
                    char sign = text.charAt(at);
                    if (sign == ' ' || sign == '\n') {
                        at++;
                        continue;
                    }
                    int to = at + 1;
                    Token token = new Token();
                    token.word = letter(sign);
                    token.digits = digit(sign);
                    while (to < text.length() && (token.word && letter(text.charAt(to))
                        || token.digits && digit(text.charAt(to)))) {
                        to++;
                    }
                    if ((sign == '<' || sign == '>') && to < text.length() && text.charAt(to) == '=') {
                        to++;
                    }
                    token.sign = text.substring(at, to);
                    token.at = at;
                    tokens.add(token);
                    at = to;
                }
                Token last = new Token();
                last.sign = "";
                last.at = text.length();
                tokens.add(last);
            }

            private static boolean letter(char sign) {
                return "abcdefghijklmnopqrstuvwxyzABCDEFGHIJKLMNOPQRSTUVWXYZ".indexOf(sign) >= 0;
            }

            private static boolean digit(char sign) {
                return "0123456789".indexOf(sign) >= 0;
            }

            private Token here() {
                return tokens.get(i);
            }

            private Fault wrong(int number) {
                return new Fault(number, here().at);
            }

            private boolean took(String sign) {
                if (here().is(sign)) {
                    i++;
                    return true;
                }
                return false;
            }

            private void need(String sign) {
                if (!took(sign)) {
                    throw wrong(1);
                }
            }

            Law law() {
                Law law = new Law();
                while (!here().is("")) {
                    String kind = here().sign;
                    if (!List.of("rides", "costs", "lay", "plate", "turn", "grant", "day").contains(kind)) {
                        throw wrong(1);
                    }
                    if (kind.equals("rides") && law.rides != null || kind.equals("costs") && law.costs != null) {
                        throw wrong(4);
                    }
                    if (law.clauses.size() == 24) {
                        throw wrong(6);
                    }
                    i++;
                    int a = 0;
                    int b = 0;
                    switch (kind) {
                        case "rides": rides = true; law.rides = sum(); break;
                        case "costs": rides = false; law.costs = sum(); break;
                        case "lay": a = number(0, 6); need("to"); b = number(0, 6); break;
                        case "plate": a = number(0, 99); need("at"); b = number(0, 6); break;
                        case "turn": a = number(0, 9); break;
                        case "grant": a = number(1, 99); break;
                        default: a = number(1, 60);
                    }
                    need(";");
                    law.clauses.add(new Object[] {kind, a, b});
                }
                return law;
            }

            private int number(int least, int most) {
                if (!here().digits) {
                    throw wrong(1);
                }
                java.math.BigInteger value = new java.math.BigInteger(here().sign);
                if (value.compareTo(java.math.BigInteger.valueOf(least)) < 0
                    || value.compareTo(java.math.BigInteger.valueOf(most)) > 0) {
                    throw wrong(2);
                }
                i++;
                return value.intValue();
            }

            private Value sum() {
                Value sum = product();
                while (here().is("+") || here().is("-")) {
                    boolean plus = here().is("+");
                    i++;
                    Value a = sum;
                    Value b = product();
                    sum = (p, x, y) -> held(plus ? a.in(p, x, y) + b.in(p, x, y) : a.in(p, x, y) - b.in(p, x, y));
                }
                return sum;
            }

            private Value product() {
                Value product = one();
                while (here().is("*") || here().is("/")) {
                    boolean times = here().is("*");
                    i++;
                    Value a = product;
                    Value b = one();
                    product = (p, x, y) -> {
                        long by = b.in(p, x, y);
                        return held(times ? a.in(p, x, y) * by : by == 0 ? 0 : a.in(p, x, y) / by);
                    };
                }
                return product;
            }

            private void enter() {
                if (open == 8) {
                    throw wrong(3);
                }
                open++;
                i++;
            }

            private Value one() {
                String sign = here().sign;
                if (here().digits) {
                    int value = number(0, 9999);
                    return (p, x, y) -> value;
                }
                if (List.of("(", "fare", "sign", "if", "-").contains(sign)) {
                    enter();
                    Value value = opened(sign);
                    open--;
                    return value;
                }
                List<String> common = List.of("day", "which", "fund", "open");
                List<String> ofRides = List.of("diff", "low", "high");
                List<String> ofCosts = List.of("old", "new", "beside");
                if (!common.contains(sign) && !ofRides.contains(sign) && !ofCosts.contains(sign)) {
                    throw wrong(1);
                }
                if (!common.contains(sign) && ofRides.contains(sign) != rides) {
                    throw wrong(5);
                }
                i++;
                return (p, x, y) -> p.named(sign, x, y);
            }

            private Value opened(String sign) {
                switch (sign) {
                    case "(": {
                        Value value = sum();
                        need(")");
                        return value;
                    }
                    case "fare": {
                        Value value = one();
                        return (p, x, y) -> {
                            int line = (int) value.in(p, x, y);
                            return p.isLine(line) ? p.fareOf(line) : 0;
                        };
                    }
                    case "sign": {
                        Value value = one();
                        return (p, x, y) -> {
                            int halt = (int) value.in(p, x, y);
                            return p.isHalt(halt) ? p.w.now.numbers[halt] : 0;
                        };
                    }
                    case "-": {
                        Value value = one();
                        return (p, x, y) -> -value.in(p, x, y);
                    }
                    default: {
                        Value asked = either();
                        need("then");
                        Value so = sum();
                        need("else");
                        Value not = sum();
                        need("end");
                        return (p, x, y) -> asked.in(p, x, y) != 0 ? so.in(p, x, y) : not.in(p, x, y);
                    }
                }
            }

            private Value either() {
                Value either = both();
                while (took("or")) {
                    Value a = either;
                    Value b = both();
                    either = (p, x, y) -> Math.max(a.in(p, x, y), b.in(p, x, y));
                }
                return either;
            }

            private Value both() {
                Value both = ask();
                while (took("and")) {
                    Value a = both;
                    Value b = ask();
                    both = (p, x, y) -> Math.min(a.in(p, x, y), b.in(p, x, y));
                }
                return both;
            }

            private Value ask() {
                if (here().is("not")) {
                    enter();
                    Value value = ask();
                    open--;
                    return (p, x, y) -> 1 - value.in(p, x, y);
                }
                Value a = sum();
                String sign = here().sign;
                if (!List.of("<", "<=", ">", ">=", "=", "#").contains(sign)) {
                    throw wrong(1);
                }
                i++;
                Value b = sum();
                return (p, x, y) -> {
                    int order = Long.compare(a.in(p, x, y), b.in(p, x, y));
                    boolean is = order < 0 ? "< <= #".contains(sign) && !sign.equals("=")
                        : order > 0 ? List.of(">", ">=", "#").contains(sign) : List.of("<=", ">=", "=").contains(sign);
                    return is ? 1 : 0;
                };
            }
        }

        private long named(String name, int which, int other) {
            int[] n = w.now.numbers;
            switch (name) {
                case "day": return w.now.day;
                case "which": return which;
                case "fund": return w.now.fund;
                case "open": return openLines().size();
                case "diff": return fareOf(which);
                case "low": return Math.min(n[w.lines.get(which)[0]], n[w.lines.get(which)[1]]);
                case "high": return Math.max(n[w.lines.get(which)[0]], n[w.lines.get(which)[1]]);
                case "old": return n[which];
                case "new": return other;
                default: return howManyBeside(which);
            }
        }
    }
}
