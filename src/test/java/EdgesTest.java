/**
 * Each sentence of the document that names an edge, in the document's order: the last that is still taken and
 * the first that isn't, on both sides where there are two. What is refused changes nothing.
 */
public final class EdgesTest {
    private static final String TEN = "01 02 03 04 05 06 12 13 14 15";
    private static int wrong = 0;
    private static String sentence = "";

    /** Something asked of an object, a boolean being 1 or 0. */
    private interface Asked {
        long of(FareNumbers x);
    }

    /** How an object is made; each time alike. */
    private interface Made {
        FareNumbers anew();
    }

    private static void due(String call, long got, long want) {
        if (got != want) {
            wrong++;
            System.out.println(sentence + ": " + call + " answered " + got + ", due is " + want);
        }
    }

    private static void due(String call, boolean got, boolean want) {
        due(call, got ? 1 : 0, want ? 1 : 0);
    }

    private static void alike(String call, String got, String want) {
        if (!got.equals(want)) {
            wrong++;
            System.out.println(sentence + ": behind " + call + " all is\n  " + got + "\nbut due is\n  " + want);
        }
    }

    public static void main(String[] args) {
        halts();
        lines();
        fund();
        fundAtItsEnd();
        dayAtItsEnd();
        draws();
        bookAtItsEnd();
        steps();
        takenBack();
        bytes();
        tokens();
        places();
        clauses();
        numbersOfTexts();
        depths();
        faultsOfOneToken();
        fullTexts();
        values();
        endsOfLaws();
        named();
        playedTexts();
        nothingIsOpen();
        besideNone();
        openLinesAlone();
        left();
        twins();
        wholeNumbers();
        spans();
        apart();
        weights();
        bands();
        mending();
        shapes();
        games();
        rides();
        saidAndWhose();
        toldOfAll();
        yearsByTheirEnds();
        yearsThatCant();
        images();
        manyCalls();
        asksChangeNothing();
        if (wrong != 0) {
            System.out.println(wrong + " answers are not as due");
            System.exit(1);
        }
        System.out.println("all edges hold");
    }

    // ---- what the tests are made of

    /** A net of these LINES: 01 12 is from 0 to 1 and from 1 to 2. */
    private static FareNumbers net(String lines) {
        FareNumbers x = new FareNumbers();
        for (int i = 0; i + 1 < lines.length(); i += 3) {
            x.lay(lines.charAt(i) - '0', lines.charAt(i + 1) - '0');
        }
        return x;
    }

    /** The same with NUMBERS from HALT 0 on. */
    private static FareNumbers net(String lines, int... numbers) {
        FareNumbers x = net(lines);
        for (int halt = 0; halt < numbers.length; halt++) {
            x.plate(halt, numbers[halt]);
        }
        return x;
    }

    private static void feed(FareNumbers x, String text) {
        x.end(0);
        for (int at = 0; at < text.length(); at += 20) {
            int[] fours = new int[5];
            for (int i = 0; i < 20 && at + i < text.length(); i++) {
                fours[i / 4] |= (text.charAt(at + i) & 255) << 24 - i % 4 * 8;
            }
            x.feed(fours[0], fours[1], fours[2], fours[3], fours[4]);
        }
        x.end(text.length());
    }

    private static int text(FareNumbers x, String text) {
        feed(x, text);
        return x.text();
    }

    /** The object with this text as THE TEXT. */
    private static FareNumbers by(FareNumbers x, String text) {
        x.by(text(x, text));
        return x;
    }

    /** FUND is just so much, LINES 0 to 5 are there with a FARE of 99 each, none of them is OPEN. */
    private static FareNumbers rich(int fund) {
        FareNumbers x = by(net("01 02 03 04 05 06", 99), "rides 10;");
        int days = (fund - 49) / 594;
        for (int i = 0; i < days / 60; i++) {
            x.day(60);
        }
        x.day(days % 60);
        for (int line = 0; line < 6; line++) {
            x.turn(line);
        }
        for (int lacks = fund - x.is(2); lacks > 0; lacks -= Math.min(lacks, 99)) {
            x.grant(Math.min(lacks, 99));
        }
        return x;
    }

    /** DAY is just this one. */
    private static FareNumbers late(FareNumbers x, int day) {
        for (int i = 0; i < day / 60; i++) {
            x.day(60);
        }
        x.day(day % 60);
        return x;
    }

    /** All that can be told of an object, in some 180 calls. */
    private static String look(FareNumbers x) {
        StringBuilder all = new StringBuilder();
        for (int what = 0; what <= 5; what++) {
            all.append(x.about(what)).append(' ');
        }
        all.append("| ");
        for (int what = 0; what <= 4; what++) {
            all.append(x.is(what)).append(' ');
        }
        all.append("| ").append(x.fault(0)).append(' ').append(x.fault(1)).append(" | ");
        for (int line = 0; line < 10; line++) {
            for (int what = 0; what <= 4; what++) {
                all.append(x.of(line, what)).append(' ');
            }
        }
        all.append("| ");
        for (int halt = 0; halt < 7; halt++) {
            all.append(x.ofHalt(halt, 0)).append(' ').append(x.ofHalt(halt, 1)).append(' ');
        }
        all.append("| ").append(x.book(-1, 0)).append(' ');
        for (int i = 0; i < 25; i++) {
            for (int what = 0; what < 4; what++) {
                all.append(x.book(i, what)).append(' ');
            }
        }
        return all.append("| ").append(x.whose()).toString();
    }

    /** A call that is refused: what it answers, and that nothing is done. */
    private static void refused(String call, Made made, Asked asked, long want) {
        FareNumbers x = made.anew();
        due(call, asked.of(x), want);
        alike(call, look(x), look(made.anew()));
    }

    /** Numbers that are none of these: the nearest on both sides, those that wrap around to one, the farthest. */
    private static int[] outside(int least, int most) {
        int[] steps = {32, 64, 128, 256, 1 << 16, 1 << 24, 1 << 30, 10, 100, 1000, 10000, 1000000};
        int[] all = new int[4 * steps.length + 4];
        int count = 0;
        for (int step : steps) {
            int[] these = {least - step, most - step, least + step, most + step};
            for (int one : these) {
                if (one < least || one > most) {
                    all[count++] = one;
                }
            }
        }
        all[count++] = least - 1;
        all[count++] = most + 1;
        all[count++] = Integer.MIN_VALUE;
        all[count++] = Integer.MAX_VALUE;
        return java.util.Arrays.copyOf(all, count);
    }

    private static int drawnBehind(int x) {
        return (x * 691 + 569) % 31013;
    }

    // ---- Terms

    private static void halts() {
        sentence = "HALTS 0 .. 6";
        for (int halt = 0; halt < 7; halt++) {
            FareNumbers x = new FareNumbers();
            due("ofHalt(" + halt + ", 0)", x.ofHalt(halt, 0), 0);
            due("ofHalt(" + halt + ", 1)", x.ofHalt(halt, 1), 0);
            due("costs(" + halt + ", 0)", x.costs(halt, 0), 1);
            due("plate(" + halt + ", 1)", x.plate(halt, 1), 1);
            due("lay", x.lay(halt, (halt + 1) % 7), 0);
            due("span(" + halt + ")", x.span(halt), halt == 6 ? 1 : 0);
            due("band(" + halt + ")", x.band(halt), halt == 6 ? 1 : 0);
            due("whole(" + halt + ")", x.whole(halt), halt == 6 ? 1 : 0);
            due("ride(" + halt + ", " + halt + ")", x.ride(halt, halt), 0);
            due("change(" + halt + ", " + halt + ", 0)", x.change(halt, halt, 0), halt);
        }
        for (int one : outside(0, 6)) {
            FareNumbers x = net("01", 3);
            due("lay(" + one + ", 5)", x.lay(one, 5), -1);
            due("lay(5, " + one + ")", x.lay(5, one), -1);
            due("about(0)", x.about(0), 1);
            due("plate(" + one + ", 1)", x.plate(one, 1), -1);
            due("ofHalt(" + one + ", 0)", x.ofHalt(one, 0), -1);
            due("ofHalt(" + one + ", 1)", x.ofHalt(one, 1), -1);
            due("costs(" + one + ", 1)", x.costs(one, 1), -100);
            due("whole(" + one + ")", x.whole(one), -1);
            due("ride(" + one + ", 0)", x.ride(one, 0), -1);
            due("ride(0, " + one + ")", x.ride(0, one), -1);
            due("ride(" + one + ", " + one + ")", x.ride(one, one), -1);
            due("change(" + one + ", 0, 0)", x.change(one, 0, 0), -2);
            due("change(0, " + one + ", 0)", x.change(0, one, 0), -2);
            due("change(" + one + ", " + one + ", 0)", x.change(one, one, 0), -2);
            due("is(2)", x.is(2), 49);
        }
        for (int one : outside(-1, 6)) {
            FareNumbers x = net("01 23");
            due("span(" + one + ")", x.span(one), -1);
            due("band(" + one + ")", x.band(one), -1);
            due("apart(1, 1, " + one + ")", x.apart(1, 1, one), -1);
        }
        sentence = "a NUMBER 0 .. 99 (not the one it has)";
        FareNumbers x = new FareNumbers();
        refused("plate(3, 0)", FareNumbers::new, y -> y.plate(3, 0), -1);
        due("plate(3, 99)", x.plate(3, 99), 1);
        due("ofHalt(3, 0)", x.ofHalt(3, 0), 99);
        due("plate(3, 99)", x.plate(3, 99), -1);
        due("plate(3, 98)", x.plate(3, 98), 1);
        due("plate(3, 0)", x.plate(3, 0), 1);
        due("ofHalt(3, 0)", x.ofHalt(3, 0), 0);
        due("is(2)", x.is(2), 47);
        refused("plate(3, 100)", () -> net("01", 4, 5), y -> y.plate(3, 100), -1);
        refused("plate(3, -1)", () -> net("01", 4, 5), y -> y.plate(3, -1), -1);
        refused("plate(1, 5)", () -> net("01", 4, 5), y -> y.plate(1, 5), -1);
        for (int one : outside(0, 99)) {
            x = net("01", 4);
            due("plate(0, " + one + ")", x.plate(0, one), -1);
            due("costs(0, " + one + ")", x.costs(0, one), -100);
            due("ofHalt(0, 0)", x.ofHalt(0, 0), 4);
        }
        due("costs(0, 99)", x.costs(0, 99), 1);
        due("costs(0, 0)", x.costs(0, 0), 1);
        due("costs(0, 4)", x.costs(0, 4), 1);
    }

    private static void lines() {
        sentence = "LINES 0 .. 9 (told one by one)";
        FareNumbers x = new FareNumbers();
        for (int line = 0; line < 10; line++) {
            due("about(0)", x.about(0), line);
            due("of(" + line + ", 0)", x.of(line, 0), -1);
            due("turn(" + line + ")", x.turn(line), false);
            due("said(" + line + ", 5)", x.said(line, 5), -2);
            due("lay", x.lay(TEN.charAt(line * 3) - '0', TEN.charAt(line * 3 + 1) - '0'), line);
            due("of(" + line + ", 3), at first OPEN", x.of(line, 3), 1);
            due("is(3)", x.is(3), (1 << line + 1) - 1);
            due("said(" + line + ", 5)", x.said(line, 5), 1);
            due("said(-1, 5)", x.said(-1, 5), 0);
        }
        due("lay(5, 6)", x.lay(5, 6), -1);
        due("about(0)", x.about(0), 10);
        due("turn(9)", x.turn(9), true);
        due("lay(5, 6)", x.lay(5, 6), -1);
        due("undo()", x.undo(), 0);
        due("lay(5, 6)", x.lay(5, 6), -1);
        due("of(9, 0)", x.of(9, 0), 1);
        due("of(9, 1)", x.of(9, 1), 5);
        due("back()", x.back(), 0);
        due("lay(5, 6)", x.lay(5, 6), 0);
        refused("lay(5, 6), the 11th", () -> net(TEN), y -> y.lay(5, 6), -1);
        for (int one : outside(0, 9)) {
            x = net(TEN);
            for (int what = 0; what <= 4; what++) {
                due("of(" + one + ", " + what + ")", x.of(one, what), -1);
            }
            due("turn(" + one + ")", x.turn(one), false);
            due("unlike(" + one + ")", x.unlike(one), -1);
            due("is(3)", x.is(3), 1023);
            due("about(3)", x.about(3), 0);
            if (one != -1) {
                due("said(" + one + ", 5)", x.said(one, 5), -2);
                due("alike(" + one + ")", net("01").alike(one), -1);
            }
        }
        for (int line = -1; line <= 2; line++) {
            for (int what : new int[] {-1, 0, 4, 5, 32, Integer.MIN_VALUE, Integer.MAX_VALUE}) {
                boolean isNone = line < 0 || line > 1 || what < 0 || what > 4;
                due("of(" + line + ", " + what + ")", net("01 12").of(line, what) == -1, isNone);
            }
        }
        pairs();
        sentence = "its FARE is what NUMBERS of its two HALTS differ by";
        x = net("01 10 12", 99, 0);
        due("about(0)", x.about(0), 2);
        due("of(0, 2)", x.of(0, 2), 99);
        due("of(1, 2)", x.of(1, 2), 0);
        x = net("10", 99);
        due("of(0, 2)", x.of(0, 2), 99);
        x.plate(1, 99);
        due("of(0, 2)", x.of(0, 2), 0);
        x.plate(0, 0);
        due("of(0, 2)", x.of(0, 2), 99);
        x.turn(0);
        due("of(0, 2), not OPEN", x.of(0, 2), 99);
        sentence = "HALTS are beside one another, if an OPEN LINE joins them";
        x = net("06 61");
        due("ofHalt(6, 1)", x.ofHalt(6, 1), 3);
        due("ofHalt(0, 1)", x.ofHalt(0, 1), 64);
        x.turn(0);
        due("ofHalt(6, 1)", x.ofHalt(6, 1), 2);
        due("ofHalt(0, 1)", x.ofHalt(0, 1), 0);
        due("ofHalt(0, 2)", x.ofHalt(0, 2), -1);
        due("ofHalt(0, -1)", x.ofHalt(0, -1), -1);
        for (int what : outside(0, 1)) {
            due("ofHalt(0, " + what + ")", x.ofHalt(0, what), -1);
        }
    }

    private static void pairs() {
        sentence = "a LINE: unlike HALTS; of each two once";
        for (int a = -1; a <= 7; a++) {
            for (int b = -1; b <= 7; b++) {
                boolean can = a >= 0 && a < 7 && b >= 0 && b < 7 && a != b;
                FareNumbers x = new FareNumbers();
                due("lay(" + a + ", " + b + ")", x.lay(a, b), can ? 0 : -1);
                due("about(0)", x.about(0), can ? 1 : 0);
                due("lay(" + a + ", " + b + ")", x.lay(a, b), -1);
                due("lay(" + b + ", " + a + ")", x.lay(b, a), -1);
                due("turn(0)", x.turn(0), can);
                due("lay(" + a + ", " + b + ")", x.lay(a, b), -1);
                due("lay(" + b + ", " + a + ")", x.lay(b, a), -1);
                due("about(0)", x.about(0), can ? 1 : 0);
                due("of(0, 0)", x.of(0, 0), can ? a : -1);
                due("of(0, 1)", x.of(0, 1), can ? b : -1);
            }
        }
        refused("lay(1, 0)", () -> net("01 12"), x -> x.lay(1, 0), -1);
        refused("lay(2, 1)", () -> net("01 12"), x -> x.lay(2, 1), -1);
        refused("lay(4, 4)", () -> net("01 12"), x -> x.lay(4, 4), -1);
    }

    private static void fund() {
        sentence = "PLATED, if FUND is as much as costs or more";
        for (int cost = 0; cost <= 99; cost++) {
            String law = "costs " + cost + ";";
            FareNumbers x = by(new FareNumbers(), law);
            boolean can = cost <= 50;
            due("plate(2, 9) by " + law, x.plate(2, 9), can ? cost : -1);
            due("is(2)", x.is(2), can ? 50 - cost : 50);
            due("ofHalt(2, 0)", x.ofHalt(2, 0), can ? 9 : 0);
            due("about(3)", x.about(3), can ? 1 : 0);
        }
        refused("plate(2, 9)", () -> by(net("01"), "costs 51;"), x -> x.plate(2, 9), -1);
        sentence = "FUND 0 .. 99999 (at first 50): nothing is left";
        FareNumbers x = by(new FareNumbers(), "costs fund;");
        due("is(2)", x.is(2), 50);
        due("plate(0, 1)", x.plate(0, 1), 50);
        due("is(2)", x.is(2), 0);
        due("plate(0, 2), for 0", x.plate(0, 2), 0);
        due("is(2)", x.is(2), 0);
        x.by(-1);
        due("plate(0, 3), for 1", x.plate(0, 3), -1);
        due("ofHalt(0, 0)", x.ofHalt(0, 0), 2);
        x.grant(1);
        due("plate(0, 3), for 1", x.plate(0, 3), 1);
        due("is(2)", x.is(2), 0);
        sentence = "costs (as it is ahead)";
        x = by(net("01 02"), "costs old*10+new+beside;");
        due("plate(0, 3)", x.plate(0, 3), 5);
        due("plate(0, 4)", x.plate(0, 4), 36);
        due("is(2)", x.is(2), 9);
        due("plate(1, 9)", x.plate(1, 9), -1);
        due("plate(1, 8)", x.plate(1, 8), 9);
        sentence = "GRANTED (1 .. 99)";
        due("grant(1)", x.grant(1), true);
        due("grant(99)", x.grant(99), true);
        due("is(2)", x.is(2), 100);
        due("about(3)", x.about(3), 5);
        refused("grant(0)", () -> net("01"), y -> y.grant(0) ? 1 : 0, 0);
        refused("grant(100)", () -> net("01"), y -> y.grant(100) ? 1 : 0, 0);
        for (int pounds : outside(1, 99)) {
            due("grant(" + pounds + ")", x.grant(pounds), false);
        }
        due("is(2)", x.is(2), 100);
        due("about(3)", x.about(3), 5);
    }

    private static void fundAtItsEnd() {
        sentence = "GRANTED: not beyond 99999";
        int[] grants = {1, 2, 50, 98, 99};
        for (int pounds : grants) {
            FareNumbers x = rich(99999 - pounds);
            due("is(2)", x.is(2), 99999 - pounds);
            due("grant(" + pounds + ")", x.grant(pounds), true);
            due("is(2)", x.is(2), 99999);
            due("grant(1)", x.grant(1), false);
            due("is(2)", x.is(2), 99999);
            refused("grant(" + pounds + ")", () -> rich(100000 - pounds), y -> y.grant(pounds) ? 1 : 0, 0);
        }
        sentence = "its FARE comes in, FUND is more by it (99999 at most, it comes in all the same)";
        for (int lacks = 97; lacks <= 101; lacks++) {
            FareNumbers x = rich(99999 - lacks);
            x.turn(3);
            due("day(1) with " + lacks + " lacking", x.day(1), 99);
            due("is(2)", x.is(2), Math.min(99999, 99999 - lacks + 99));
            due("book(24, 1)", x.book(24, 1), 2);
            due("book(24, 3)", x.book(24, 3), 99);
        }
        FareNumbers x = rich(99999);
        for (int line = 0; line < 6; line++) {
            x.turn(line);
        }
        due("foretold(60)", x.foretold(60), 99999);
        due("day(60)", x.day(60), 60 * 594);
        due("is(2)", x.is(2), 99999);
        // 99999 at most at each LINE: a plate is paid from what is there
        due("plate(0, 0)", x.plate(0, 0), 1);
        due("is(2)", x.is(2), 99998);
        due("day(1), FARES of 0", x.day(1), 0);
        due("is(2)", x.is(2), 99998);
        sentence = "below rides (as it is then): by FUND as it is behind the LINE ahead";
        x = by(rich(99900), "rides if fund<999*100+99 then 10 else 0 end;");
        x.turn(0);
        x.turn(1);
        x.turn(2);
        due("day(1)", x.day(1), 99);
        due("is(2)", x.is(2), 99999);
        due("day(1)", x.day(1), 0);
    }

    private static void dayAtItsEnd() {
        sentence = "DAYS (1 .. 60)";
        FareNumbers x = new FareNumbers();
        due("day(1)", x.day(1), 0);
        due("is(0)", x.is(0), 1);
        due("day(60)", x.day(60), 0);
        due("is(0)", x.is(0), 61);
        refused("day(0)", () -> net("01", 9), y -> y.day(0), -1);
        refused("day(61)", () -> net("01", 9), y -> y.day(61), -1);
        for (int n : outside(1, 60)) {
            due("day(" + n + ")", x.day(n), -1);
            due("foretold(" + n + ")", x.foretold(n), -1);
        }
        due("is(0)", x.is(0), 61);
        sentence = "DAY 0 .. 9999: NONE beyond 9999 (nothing is done then)";
        int[] many = {1, 2, 30, 59, 60};
        for (int n : many) {
            x = late(new FareNumbers(), 9999 - n);
            due("is(0)", x.is(0), 9999 - n);
            due("day(" + n + ")", x.day(n), 0);
            due("is(0)", x.is(0), 9999);
            refused("day(" + n + ")", () -> late(net("01", 7), 10000 - n), y -> y.day(n), -1);
        }
        refused("day(60)", () -> late(net("01", 7), 9998), y -> y.day(60), -1);
        sentence = "DAY is one more (at 9999 none can pass)";
        refused("day(1)", () -> late(net("01", 7), 9999), y -> y.day(1), -1);
        refused("day(60)", () -> late(net("01", 7), 9999), y -> y.day(60), -1);
        due("undo()", x.undo(), 29);
        due("is(0)", x.is(0), 9998);
        due("day(2)", x.day(2), -1);
        due("day(1)", x.day(1), 0);
        sentence = "FORETOLD behind n DAYS (1 .. 60; those that can pass)";
        for (int day = 9937; day <= 9999; day += day < 9941 || day > 9994 ? 1 : 9) {
            x = late(by(net("01", 9), "rides 10;"), day);
            int fund = x.is(2);
            int can = 9999 - day;
            due("foretold(1)", x.foretold(1), fund + 9 * Math.min(1, can));
            due("foretold(2)", x.foretold(2), fund + 9 * Math.min(2, can));
            due("foretold(59)", x.foretold(59), fund + 9 * Math.min(59, can));
            due("foretold(60)", x.foretold(60), fund + 9 * Math.min(60, can));
            due("foretold(61)", x.foretold(61), -1);
            due("foretold(0)", x.foretold(0), -1);
        }
    }

    private static void draws() {
        sentence = "OPEN LINES by number: a draw by 10 (X mod 10, X becoming (X * 691 + 569) mod 31013 behind it)";
        FareNumbers x = new FareNumbers();
        due("is(1)", x.is(1), 439);
        x.day(60);
        due("is(1), no LINE", x.is(1), 439);
        for (int rides = 0; rides <= 10; rides++) {
            x = by(net("01 12 23", 0, 1, 3, 7), "rides " + rides + ";");
            x.turn(1);
            int drawn = 439;
            for (int day = 0; day < 40; day++) {
                int want = drawn % 10 < rides ? 1 : 0;
                drawn = drawnBehind(drawn);
                want += drawn % 10 < rides ? 4 : 0;
                drawn = drawnBehind(drawn);
                due("day(1)", x.day(1), want);
                due("is(1)", x.is(1), drawn);
            }
        }
        sentence = "below rides: 0 none is, 10 each is, of 9 a draw of 9 isn't";
        x = by(net("01", 3), "rides 9;");
        due("is(1), a draw of 9", x.is(1) % 10, 9);
        due("day(1)", x.day(1), 0);
        due("book(-1, 0)", x.book(-1, 0), 1);
        due("is(1), a draw of 1", x.is(1) % 10, 1);
        text(x, "rides 1;");
        text(x, "rides 2;");
        x.by(1);
        due("foretold(1) by rides 1", x.foretold(1), 49);
        x.by(2);
        due("foretold(1) by rides 2", x.foretold(1), 52);
        x = by(net("01", 3), "rides 10;");
        due("day(1)", x.day(1), 3);
        x = by(net("01"), "rides 10;");
        due("day(1), a FARE of 0", x.day(1), 0);
        due("book(0, 1), ridden all the same", x.book(0, 1), 2);
        due("book(0, 3)", x.book(0, 3), 0);
        x = by(net("01", 3), "rides 0;");
        due("day(60)", x.day(60), 0);
        due("book(-1, 0)", x.book(-1, 0), 1);
    }

    private static void bookAtItsEnd() {
        sentence = "BOOK (the latest 25)";
        FareNumbers x = net(TEN);
        due("book(-1, 0) of none", x.book(-1, 0), 0);
        due("book(0, 0) of none", x.book(0, 0), -2);
        for (int i = 1; i <= 60; i++) {
            x.turn(i * 7 % 10);
            int many = Math.min(25, i);
            due("book(-1, 0)", x.book(-1, 0), many);
            due("book(0, 2)", x.book(0, 2), (i - many + 1) * 7 % 10);
            due("book(" + (many - 1) + ", 2)", x.book(many - 1, 2), i * 7 % 10);
            due("book(" + many + ", 2)", x.book(many, 2), -2);
            due("ledger(1)", x.ledger(1), many);
        }
        x = net(TEN);
        for (int i = 0; i < 30; i++) {
            x.turn(i % 10);
        }
        for (int i : outside(-1, 24)) {
            due("book(" + i + ", 0)", x.book(i, 0), -2);
        }
        for (int what : outside(0, 3)) {
            due("book(0, " + what + ")", x.book(0, what), -2);
            due("book(24, " + what + ")", x.book(24, what), -2);
        }
        sentence = "Plated, turned, ridden are written down, nothing else";
        x = by(net("01", 5), "rides 0;");
        x.undo();
        due("grant(9)", x.grant(9), true);
        due("day(60)", x.day(60), 0);
        x.by(-1);
        x.said(0, 5);
        x.image();
        due("plate(6, 0)", x.plate(6, 0), -1);
        due("turn(1)", x.turn(1), false);
        due("grant(100)", x.grant(100), false);
        due("foretold(60)", x.foretold(60), 59);
        due("book(-1, 0)", x.book(-1, 0), 0);
        due("turn(0)", x.turn(0), true);
        due("book(-1, 0)", x.book(-1, 0), 1);
        due("undo()", x.undo(), 29);
        due("book(-1, 0)", x.book(-1, 0), 0);
        sentence = "BOOK: of a DAY of ten LINES, the eldest go first";
        x = by(net(TEN, 9), "rides 10;");
        x.day(2);
        due("book(-1, 0)", x.book(-1, 0), 21);
        due("book(0, 1), plated", x.book(0, 1), 0);
        x.day(1);
        due("book(-1, 0)", x.book(-1, 0), 25);
        for (int i = 0; i < 25; i++) {
            int ridden = 5 + i;
            due("book(" + i + ", 0)", x.book(i, 0), ridden / 10);
            due("book(" + i + ", 1)", x.book(i, 1), 2);
            due("book(" + i + ", 2)", x.book(i, 2), ridden % 10);
            due("book(" + i + ", 3)", x.book(i, 3), ridden % 10 < 6 ? 9 : 0);
        }
        due("ledger(0)", x.ledger(0), 0);
        due("ledger(1)", x.ledger(1), 0);
        due("ledger(2)", x.ledger(2), 25);
        sentence = "BOOK: the greatest of all that is written down";
        x = by(net(TEN), "rides 10;");
        late(x, 9998);
        x.plate(6, 99);
        x.turn(9);
        x.turn(9);
        due("day(1)", x.day(1), 99);
        int[][] want = {{9998, 0, 6, 99}, {9998, 1, 9, 0}, {9998, 1, 9, 1}, {9998, 2, 0, 0}};
        for (int i = 0; i < want.length; i++) {
            for (int what = 0; what < 4; what++) {
                due("book(" + (12 + i) + ", " + what + ")", x.book(12 + i, what), want[i][what]);
            }
        }
        due("book(20, 3)", x.book(20, 3), 99);
        due("book(24, 0)", x.book(24, 0), 9998);
        due("book(24, 2)", x.book(24, 2), 9);
        x.turn(9);
        x.plate(0, 1);
        due("book(23, 0)", x.book(23, 0), 9999);
        due("book(24, 0)", x.book(24, 0), 9999);
        due("book(24, 3)", x.book(24, 3), 1);
        sentence = "BOOK: what is written down is told as it was, on each DAY";
        for (int day = 0; day <= 9999; day += day < 8 ? 1 : 333) {
            FareNumbers y = late(by(net(TEN), "rides if day=" + Math.min(day, 9998) + " then 10 else 0 end;"), day);
            y.plate(6, 99);
            y.turn(9);
            y.turn(9);
            int ridden = day < 9999 ? y.day(1) : 0;
            due("day(1)", ridden, day < 9999 ? 99 : 0);
            int[][] lines = {{day, 0, 6, 99}, {day, 1, 9, 0}, {day, 1, 9, 1}, {day, 2, 0, 0}, {day, 2, 5, 99}, {day, 2, 9, 0}};
            int[] places = {0, 1, 2, 3, 8, 12};
            int from = day == 9999 ? 10 : 0;
            for (int i = 0; i < (day == 9999 ? 3 : 6); i++) {
                for (int what = 0; what < 4; what++) {
                    due("book(" + (from + places[i]) + ", " + what + ") on " + day, y.book(from + places[i], what), lines[i][what]);
                }
            }
        }
        sentence = "BY THE BOOK: how many lines there are of a kind (0 .. 2)";
        due("ledger(0)", x.ledger(0), 2);
        due("ledger(1)", x.ledger(1), 3);
        due("ledger(2)", x.ledger(2), 20);
        for (int what : outside(0, 2)) {
            due("ledger(" + what + ")", x.ledger(what), -2);
        }
        for (int what = 0; what <= 2; what++) {
            due("ledger(" + what + ") of none", new FareNumbers().ledger(what), 0);
        }
    }

    private static void steps() {
        sentence = "the latest 30 can be taken back, the latest first";
        for (int many = 0; many <= 64; many++) {
            FareNumbers x = new FareNumbers();
            for (int i = 0; i < many; i++) {
                x.grant(1);
            }
            int can = Math.min(30, many);
            due("about(3) behind " + many, x.about(3), can);
            for (int i = can - 1; i >= 0; i--) {
                due("undo()", x.undo(), i);
                due("is(2)", x.is(2), 50 + many - can + i);
            }
            due("undo(), there is none", x.undo(), -1);
            due("about(3)", x.about(3), 0);
            due("is(2)", x.is(2), 50 + many - can);
        }
        refused("undo(), there is none", () -> net("01"), y -> y.undo(), -1);
        sentence = "STEPS: taken back and made anew, again and again";
        FareNumbers x = new FareNumbers();
        for (int i = 0; i < 35; i++) {
            x.grant(1);
        }
        for (int round = 0; round < 9; round++) {
            for (int i = 0; i < 7; i++) {
                x.undo();
            }
            due("about(3)", x.about(3), 23);
            for (int i = 0; i < 7; i++) {
                x.grant(2);
            }
            due("about(3)", x.about(3), 30);
        }
        due("is(2)", x.is(2), 50 + 35 - 7 + 14);
        for (int i = 29; i >= 0; i--) {
            due("undo()", x.undo(), i);
        }
        due("is(2)", x.is(2), 55);
        due("undo()", x.undo(), -1);
        sentence = "STEPS: a DAY (each)";
        int[] days = {1, 29, 30, 31, 60};
        for (int n : days) {
            x = net("01", 5);
            x.undo();
            x.day(n);
            due("about(3) behind day(" + n + ")", x.about(3), Math.min(30, n));
            x.undo();
            due("is(0)", x.is(0), n - 1);
            for (int i = 0; i < 30; i++) {
                x.undo();
            }
            due("is(0)", x.is(0), Math.max(0, n - 30));
        }
        sentence = "STEPS: PLATED, TURNED, GRANTED, a DAY, YEARS, nothing else";
        x = net("01");
        x.by(text(x, "rides 3;"));
        x.said(0, 3);
        x.fault(0);
        x.image();
        x.lay(2, 3);
        due("about(3)", x.about(3), 0);
        x.plate(0, 4);
        due("about(3)", x.about(3), 1);
        x.turn(0);
        due("about(3)", x.about(3), 2);
        x.grant(1);
        due("about(3)", x.about(3), 3);
        x.day(1);
        due("about(3)", x.about(3), 4);
        x.years(5, 40);
        due("about(3)", x.about(3), 5);
        x.played(0);
        due("about(3)", x.about(3), 5);
        x.foretold(60);
        due("about(3)", x.about(3), 5);
    }

    private static void takenBack() {
        sentence = "taken back: NUMBERS, which LINES are OPEN, FUND, DAY, X, BOOK are as ahead of it";
        Made[] ahead = {
            () -> by(net("01 12", 3, 9), "rides 7;"),
            () -> by(net(TEN, 3, 9, 27, 81), "rides 10;"),
            () -> late(by(net("01 12", 3, 2), "rides 10;"), 9998),
            () -> late(by(net(TEN, 3, 9, 27, 81), "rides 3;"), 100),
        };
        Asked[] steps = {
            x -> x.plate(0, 99),
            x -> x.turn(0) ? 1 : 0,
            x -> x.grant(99) ? 1 : 0,
            x -> x.day(1),
            x -> x.years(9999, 40),
            x -> x.years(0, 1),
        };
        for (Made made : ahead) {
            FareNumbers before = made.anew();
            int had = before.about(3);
            String want = look(before);
            for (Asked step : steps) {
                FareNumbers x = made.anew();
                step.of(x);
                due("about(3)", x.about(3), Math.min(30, had + 1));
                due("undo()", x.undo(), Math.min(29, had));
                // behind 30 STEPS the eldest one is gone, all else is as ahead
                alike("a STEP and undo()", look(x), had == 30 ? want.replaceFirst(" 30 ", " 29 ") : want);
            }
        }
        sentence = "LINES told since are OPEN";
        FareNumbers x = net("01");
        x.turn(0);
        x.lay(1, 2);
        x.turn(1);
        x.lay(2, 3);
        due("is(3)", x.is(3), 4);
        due("undo()", x.undo(), 1);
        due("is(3)", x.is(3), 6);
        x.turn(2);
        due("is(3)", x.is(3), 2);
        due("undo()", x.undo(), 1);
        due("undo()", x.undo(), 0);
        due("is(3)", x.is(3), 7);
        due("about(0)", x.about(0), 3);
        for (int line = 0; line < 3; line++) {
            due("of(" + line + ", 3)", x.of(line, 3), 1);
        }
        sentence = "taken back: THE TEXT, TEXTS, what is SAID and the tape stay";
        x = net("01");
        x.grant(1);
        x.by(text(x, "rides 3;"));
        x.said(0, 3);
        x.feed(0, 0, 0, 0, 0);
        x.undo();
        int[] about = {1, 1, 0, 0, 1, 20};
        for (int what = 0; what <= 5; what++) {
            due("about(" + what + ")", x.about(what), about[what]);
        }
        for (int what : outside(0, 5)) {
            due("about(" + what + ")", x.about(what), -2);
        }
        for (int what : outside(0, 4)) {
            due("is(" + what + ")", x.is(what), -2);
        }
    }

    // ---- II, the tape and TEXTS

    private static void bytes() {
        sentence = "feed: NONE, and none come, if there would be more than 300";
        FareNumbers x = new FareNumbers();
        for (int had = 0; had <= 300; had++) {
            x = new FareNumbers();
            for (int i = 0; i < 15; i++) {
                x.feed(0x3b3b3b3b, 0x3b3b3b3b, 0x3b3b3b3b, 0x3b3b3b3b, 0x3b3b3b3b);
            }
            x.end(had);
            boolean can = had <= 280;
            due("feed behind " + had, x.feed(0x20202020, 0x20202020, 0x20202020, 0x20202020, 0x20202020), can ? had + 20 : -1);
            due("about(5)", x.about(5), can ? had + 20 : had);
        }
        sentence = "feed: twenty bytes come behind the tape, the highest of a first";
        for (int at = 0; at < 20; at++) {
            x = new FareNumbers();
            for (int strange : new int[] {'!', 0, 9, 11, 13, 31, 33, 127, 128, 138, 160, 255}) {
                int[] fours = {0x20202020, 0x0a0a0a0a, 0x20202020, 0x20200a0a, 0x20202020};
                int shift = 24 - at % 4 * 8;
                fours[at / 4] = fours[at / 4] & ~(255 << shift) | strange << shift;
                due("feed", x.feed(fours[0], fours[1], fours[2], fours[3], fours[4]), 20);
                due("text()", x.text(), -1);
                due("fault(0)", x.fault(0), 1);
                due("fault(1)", x.fault(1), at);
                due("about(5)", x.about(5), 0);
            }
        }
        sentence = "end: the tape has its first n bytes alone; NONE if it has not so many, or n is below 0";
        for (int had = 0; had <= 300; had += 20) {
            x = new FareNumbers();
            for (int i = 0; i < had / 20; i++) {
                x.feed(0x20202020, 0x20202020, 0x20202020, 0x20202020, 0x20202020);
            }
            due("end(" + (had + 1) + ")", x.end(had + 1), -1);
            for (int n : outside(0, had)) {
                due("end(" + n + ")", x.end(n), -1);
            }
            due("about(5)", x.about(5), had);
            due("end(" + had + ")", x.end(had), had);
            if (had > 0) {
                due("end(" + (had - 1) + ")", x.end(had - 1), had - 1);
                due("end(" + had + ")", x.end(had), -1);
                due("about(5)", x.about(5), had - 1);
                x.text();
                due("end(1) of an empty tape", x.end(1), -1);
            }
            due("end(0)", x.end(0), 0);
            due("about(5)", x.about(5), 0);
        }
        x = new FareNumbers();
        feed(x, "day 1;!!!!!!!!!!!!!!!!!!");
        due("end(6)", x.end(6), 6);
        due("text()", x.text(), 0);
        feed(x, "day 1;!!!!!!!!!!!!!!!!!!");
        x.end(5);
        due("feed", x.feed('3' << 24 | ';' << 16 | 0x2020, 0x20202020, 0x20202020, 0x20202020, 0x20202020), 25);
        due("text()", x.text(), 1);
        due("played(1)", x.played(1), -1);
        due("is(0)", x.is(0), 13);
        sentence = "TEXTS 0 .. 3: NONE, and the tape stays, if there are 4; the latest FAULT stays, too";
        x = new FareNumbers();
        for (int i = 0; i < 4; i++) {
            due("by(" + i + ")", x.by(i), false);
            due("played(" + i + ")", x.played(i), -2);
            due("text()", text(x, "grant " + (i + 1) + ";"), i);
            due("about(1)", x.about(1), i + 1);
            due("about(5)", x.about(5), 0);
            due("by(" + i + ")", x.by(i), true);
            due("played(" + i + ")", x.played(i), -1);
        }
        due("is(2)", x.is(2), 60);
        due("text(), the 5th", text(x, "grant 9;"), -1);
        due("about(5)", x.about(5), 8);
        due("text(), the 5th", x.text(), -1);
        due("about(5)", x.about(5), 8);
        due("text(), the 5th, with a FAULT", text(x, "grant 0;"), -1);
        due("fault(0)", x.fault(0), 0);
        due("fault(1)", x.fault(1), -1);
        due("about(5)", x.about(5), 8);
        due("about(1)", x.about(1), 4);
        due("played(4)", x.played(4), -2);
        due("by(4)", x.by(4), false);
        x.back();
        due("about(5), the tape stays", x.about(5), 8);
        due("text()", x.text(), -1);
        due("fault(0)", x.fault(0), 2);
        due("fault(1)", x.fault(1), 6);
        due("text()", text(x, "grant 7;"), 0);
        sentence = "a text with a FAULT: NONE, no TEXT comes, the tape is empty";
        x = new FareNumbers();
        for (int i = 0; i < 4; i++) {
            due("text()", text(x, "rides 3;grant 0;"), -1);
            due("about(1)", x.about(1), i);
            due("about(5)", x.about(5), 0);
            due("fault(0)", x.fault(0), 2);
            due("by(" + i + ")", x.by(i), false);
            due("text()", text(x, "costs " + i + ";"), i);
            due("fault(0)", x.fault(0), 0);
            due("by(" + i + ")", x.by(i), true);
            due("costs(0, 1)", x.costs(0, 1), i);
            due("of(0, 4)", x.of(0, 4), -1);
        }
        sentence = "a TEXT has nothing of what was read ahead of it, with a FAULT or taken back";
        x = net("01");
        due("text()", text(x, "grant 1;rides 3;costs 4;turn 0;grant 0;"), -1);
        due("text()", text(x, "day 1;"), 0);
        x.by(0);
        due("of(0, 4)", x.of(0, 4), 5);
        due("costs(0, 1)", x.costs(0, 1), 1);
        due("played(0)", x.played(0), -1);
        due("is(0)", x.is(0), 1);
        due("is(2)", x.is(2), 50);
        due("is(3)", x.is(3), 1);
        due("text()", text(x, "grant 1;rides 3;costs 4;turn 0;"), 1);
        x.back();
        x.lay(0, 1);
        due("text()", text(x, "rides 7-6;"), 0);
        x.by(0);
        due("of(0, 4)", x.of(0, 4), 1);
        due("costs(0, 1)", x.costs(0, 1), 1);
        due("played(0)", x.played(0), -1);
        due("about(3)", x.about(3), 0);
        x.back();
        x.lay(0, 1);
        due("text()", text(x, "costs 2;"), 0);
        x.by(0);
        due("of(0, 4)", x.of(0, 4), 5);
        due("costs(0, 1)", x.costs(0, 1), 2);
        sentence = "fault: NONE for others, and ahead of any";
        x = new FareNumbers();
        due("fault(0)", x.fault(0), -1);
        due("fault(1)", x.fault(1), -1);
        x.feed(0, 0, 0, 0, 0);
        due("fault(0)", x.fault(0), -1);
        x.text();
        due("fault(0)", x.fault(0), 1);
        due("fault(1)", x.fault(1), 0);
        for (int what : outside(0, 1)) {
            due("fault(" + what + ")", x.fault(what), -1);
        }
        due("text() of an empty tape", x.text(), 0);
        due("fault(0)", x.fault(0), 0);
        due("fault(1)", x.fault(1), -1);
        due("played(0)", x.played(0), -1);
        sentence = "by: NONE none, false for others";
        due("by(0)", x.by(0), true);
        for (int one : outside(-1, 0)) {
            due("by(" + one + ")", x.by(one), false);
            due("about(2)", x.about(2), 0);
        }
        due("by(-1)", x.by(-1), true);
        due("about(2)", x.about(2), -1);
        for (int one : outside(0, 0)) {
            due("played(" + one + ")", x.played(one), -2);
        }
    }

    /** Such a text has that FAULT there; 0 and NONE without. */
    private static void fault(String text, int number, int place) {
        FareNumbers x = new FareNumbers();
        due("text() of " + text, text(x, text), number == 0 ? 0 : -1);
        due("fault(0) of " + text, x.fault(0), number);
        due("fault(1) of " + text, x.fault(1), place);
        due("about(1) of " + text, x.about(1), number == 0 ? 1 : 0);
    }

    private static void good(String text) {
        fault(text, 0, -1);
    }

    private static void tokens() {
        sentence = "TOKENS, blanks (32, 10) aside";
        for (int sign = 0; sign < 256; sign++) {
            boolean isBlank = sign == 32 || sign == 10;
            boolean isLetter = sign >= 'a' && sign <= 'z' || sign >= 'A' && sign <= 'Z';
            boolean isDigit = sign >= '0' && sign <= '9';
            String text = (char) sign + "day" + (char) sign + "6" + (char) sign + ";" + (char) sign;
            fault(text, isBlank ? 0 : 1, isBlank ? -1 : 0);
            if (!isDigit) {
                fault(text.substring(1), isBlank ? 0 : 1, isBlank ? -1 : isLetter ? 0 : 3);
            }
            fault("day 1;" + (char) sign, isBlank ? 0 : 1, isBlank ? -1 : 6);
            // a sign alone stands nowhere ahead of a number but - and (
            if (!isLetter) {
                boolean can = isBlank || isDigit || sign == '-';
                fault("rides " + (char) sign + "1;", can ? 0 : 1, can ? -1 : sign == '(' ? 8 : 6);
            }
        }
        sentence = "letters a .. z, A .. Z one behind the other are one TOKEN, digits likewise";
        for (char letter : "azAZ".toCharArray()) {
            fault("day 1;" + letter + "day 1;", 1, 6);
            fault("day 1;day" + letter + " 1;", 1, 6);
            fault("day 1;da" + letter + "y 1;", 1, 6);
        }
        for (char near : "`{@[".toCharArray()) {
            fault("day 1;day" + near + " 1;", 1, 9);
        }
        for (char near : "/:".toCharArray()) {
            fault("day 1" + near + ";", 1, 5);
        }
        good("day1;rides1+2*fare3;turn1;lay1to2;");
        good("rides if1<2then3else4end;");
        fault("rides ifa1<2then3else4end;", 1, 6);
        fault("rides if 1<2 thenelse 4 end;", 1, 13);
        fault("rides if 1<2 then 3 elseend;", 1, 20);
        fault("rides if 1<2 then 3 else 4 ends;", 1, 27);
        fault("ridesrides 1;", 1, 0);
        fault("Rides 1;", 1, 0);
        fault("RIDES 1;", 1, 0);
        fault("rideS 1;", 1, 0);
        fault("rid es 1;", 1, 0);
        fault("day 1 2;", 1, 6);
        sentence = "the longest: <= >=";
        good("rides if 1<=2 then 3 else 4 end;");
        good("rides if 1>=2 then 3 else 4 end;");
        fault("rides if 1<==2 then 3 else 4 end;", 1, 12);
        fault("rides if 1>==2 then 3 else 4 end;", 1, 12);
        fault("rides if 1< =2 then 3 else 4 end;", 1, 12);
        fault("rides if 1=<2 then 3 else 4 end;", 1, 11);
        fault("rides if 1=>2 then 3 else 4 end;", 1, 11);
        fault("rides if 1==2 then 3 else 4 end;", 1, 11);
        fault("rides if 1<>2 then 3 else 4 end;", 1, 11);
        fault("rides if 1#=2 then 3 else 4 end;", 1, 11);
        fault("rides if 1<", 1, 11);
        fault("rides if 1<=", 1, 12);
        fault("rides if 1>", 1, 11);
        fault("rides if 1>=", 1, 12);
        sentence = "a TOKEN ends with the tape";
        cutOff("rides if 1<=2 then 3 else 4 end;", 11, 11);
        cutOff("day 12;", 5, 5);
        cutOff("day 1;rides 2;", 9, 6);
        cutOff("day 1; \n ;", 9, -1);
        cutOff("day 1;", 6, -1);
    }

    /** A tape that had this and has its first bytes alone: where it has FAULT 1. */
    private static void cutOff(String text, int length, int place) {
        FareNumbers x = new FareNumbers();
        feed(x, text);
        due("end(" + length + ")", x.end(length), length);
        due("text() of " + length + " bytes of " + text, x.text(), place < 0 ? 0 : -1);
        due("fault(0)", x.fault(0), place < 0 ? 0 : 1);
        due("fault(1)", x.fault(1), place);
    }

    /** All TOKENS, those of two kinds told as they are. */
    private static final String TOKENS = "rides costs lay to plate at turn grant day which fund open diff low high old new "
        + "beside fare sign if then else end or and not < <= > >= = # + - * / ( ) ; 3 x";

    /** Behind such a beginning just these TOKENS can stand (those told behind a bar: FAULT 5). */
    private static void behind(String text, String can, String others) {
        for (String token : TOKENS.split(" ")) {
            boolean fits = (" " + can + " ").contains(" " + token + " ");
            boolean isOther = (" " + others + " ").contains(" " + token + " ");
            FareNumbers x = new FareNumbers();
            boolean isRead = text(x, text + token) == 0;
            boolean isWrongHere = x.fault(1) == text.length();
            due("text() of " + text + token + ": stands there", isRead || !isWrongHere, fits);
            if (isWrongHere) {
                due("fault(0) of " + text + token, x.fault(0), isOther ? 5 : 1);
            } else if (!isRead) {
                due("fault(0) of " + text + token + ", at the end", x.fault(0), 1);
                due("fault(1) of " + text + token + ", at the end", x.fault(1), text.length() + token.length());
            }
        }
        fault(text, 1, text.length());
        fault(text + " \n", 1, text.length() + 2);
        fault(text + "?", 1, text.length());
    }

    private static void places() {
        sentence = "FAULT 1: it can't stand there, or is none";
        String starts = "rides costs lay plate turn grant day";
        String ofRides = "day which fund open diff low high";
        String ofCosts = "day which fund open old new beside";
        String one = "3 ( - fare sign if ";
        String[] laws = {"rides ", "costs "};
        for (String law : laws) {
            String names = law.equals("rides ") ? ofRides : ofCosts;
            String others = law.equals("rides ") ? "old new beside" : "diff low high";
            String[] ones = {"", "(", "-", "fare ", "sign ", "1+", "1-", "1*", "1/", "1+1*", "if 1=1 then ", "if 1=1 then 1 else ",
                "if 1=", "if 1<=", "if 1#", "if 1=1 then 1 else 1 end+", "fare sign - ("};
            for (String ahead : ones) {
                behind(law + ahead, one + names, others);
            }
            String[] asks = {"if ", "if not ", "if not not ", "if 1=1 and ", "if 1=1 or ", "if 1=1 and not "};
            for (String ahead : asks) {
                behind(law + ahead, one + "not " + names, others);
            }
            String[] sums = {"1 ", "1+1 ", "1*1 ", "day ", "- 1 ", "fare 1 ", "sign open ", "(1) ", "if 1=1 then 1 else 1 end "};
            for (String ahead : sums) {
                behind(law + ahead, "+ - * / ;", "");
                behind(law + "(" + ahead, "+ - * / )", "");
                behind(law + "if " + ahead, "+ - * / < <= > >= = #", "");
                behind(law + "if not " + ahead, "+ - * / < <= > >= = #", "");
                behind(law + "if 1=1 and " + ahead, "+ - * / < <= > >= = #", "");
                behind(law + "if 1=" + ahead, "+ - * / and or then", "");
                behind(law + "if 1=1 and not 1=" + ahead, "+ - * / and or then", "");
                behind(law + "if 1=1 then " + ahead, "+ - * / else", "");
                behind(law + "if 1=1 then 1 else " + ahead, "+ - * / end", "");
            }
            behind("day 1;" + law, one + names, others);
        }
        String[] numbers = {"lay ", "lay 1 to ", "plate ", "plate 1 at ", "turn ", "grant ", "day "};
        for (String ahead : numbers) {
            behind(ahead, "3", "");
            behind("grant 1;" + ahead, "3", "");
        }
        behind("lay 1 ", "to", "");
        behind("plate 1 ", "at", "");
        String[] ends = {"lay 1 to 2 ", "plate 1 at 2 ", "turn 1 ", "grant 1 ", "day 1 "};
        for (String ahead : ends) {
            behind(ahead, ";", "");
        }
        for (String token : TOKENS.split(" ")) {
            boolean fits = (" " + starts + " ").contains(" " + token + " ");
            fault(token, 1, fits ? token.length() : 0);
            fault("day 1;" + token, 1, fits ? token.length() + 6 : 6);
        }
        sentence = "FAULTS: the first as TOKENS are come to";
        fault("grant 0;day 0", 2, 6);
        fault("day 1;grant 0;day 0", 2, 12);
        fault("rides old;day 0;", 5, 6);
        fault("day 0;rides old;", 2, 4);
        fault("rides old", 5, 6);
        fault("rides 10000", 2, 6);
        fault("lay 7 at 2;", 2, 4);
        fault("lay 6 at 7;", 1, 6);
    }

    private static String many(String clause, int times) {
        StringBuilder all = new StringBuilder();
        for (int i = 0; i < times; i++) {
            all.append(clause);
        }
        return all.toString();
    }

    private static void clauses() {
        sentence = "FAULT 6: the 25th CLAUSE (at its first TOKEN)";
        String[] kinds = {"rides 1;", "costs 1;", "lay 1 to 2;", "plate 1 at 2;", "turn 1;", "grant 1;", "day 1;"};
        for (String kind : kinds) {
            String had = many("day 1;", 23);
            good(had + kind);
            fault(had + "day 2;" + kind, 6, had.length() + 6);
            fault(had + "day 2; \n " + kind, 6, had.length() + 9);
            fault(had + "day 2;" + kind.substring(0, kind.length() - 1), 6, had.length() + 6);
            fault(had + kind + "day 1;", 6, had.length() + kind.length());
        }
        good(many("day 1;", 24));
        good(many("day 1;", 24) + " \n  ");
        fault(many("day 1;", 24) + ";", 1, 144);
        fault(many("day 1;", 24) + "to", 1, 144);
        fault(many("day 1;", 24) + "5", 1, 144);
        fault(many("day 1;", 23) + "day 1", 1, 143);
        FareNumbers x = new FareNumbers();
        text(x, many("day 1;", 24));
        due("played(0)", x.played(0), -1);
        due("is(0)", x.is(0), 24);
        text(x, many("day 1;", 23) + "turn 9;");
        due("played(1), the 24th can't be", x.played(1), 23);
        due("is(0)", x.is(0), 47);
        sentence = "FAULT 4: rides, costs for the second time (at it)";
        good("rides 1;costs 2;");
        good("costs 1;rides 2;");
        fault("rides 1;rides 2;", 4, 8);
        fault("costs 1;costs 2;", 4, 8);
        fault("rides 1;costs 2;rides", 4, 16);
        fault("rides 1;costs 2; costs", 4, 17);
        fault("rides 1;" + many("day 1;", 22) + "rides 1;", 4, 140);
        sentence = "of like ones the least: rides for the second time as the 25th CLAUSE";
        fault("rides 1;" + many("day 1;", 23) + "rides 1;", 4, 146);
        fault("rides 1;" + many("day 1;", 23) + "costs 1;", 6, 146);
        fault("costs 1;" + many("day 1;", 23) + "rides 1;", 6, 146);
        fault("costs 1;" + many("day 1;", 23) + "costs 1;", 4, 146);
    }

    private static void numbersOfTexts() {
        sentence = "FAULT 2: a NUMBER that isn't one of those told";
        numberOf("lay ", " to 0;", 0, 6);
        numberOf("lay 0 to ", ";", 0, 6);
        numberOf("plate ", " at 0;", 0, 99);
        numberOf("plate 0 at ", ";", 0, 6);
        numberOf("turn ", ";", 0, 9);
        numberOf("grant ", ";", 1, 99);
        numberOf("day ", ";", 1, 60);
        numberOf("rides ", ";", 0, 9999);
        numberOf("costs ", ";", 0, 9999);
        numberOf("rides 1+", ";", 0, 9999);
        numberOf("rides fare ", ";", 0, 9999);
        numberOf("rides if ", "=1 then 1 else 2 end;", 0, 9999);
        numberOf("rides if 1=2 then ", " else 2 end;", 0, 9999);
        numberOf("rides if 1=1 then 1 else ", " end;", 0, 9999);
        fault("rides -10000;", 2, 7);
        good("rides -9999;");
    }

    /** Between these a NUMBER from least to most can stand, no other. */
    private static void numberOf(String ahead, String behind, int least, int most) {
        String nulls = many("0", 40);
        String[] can = {"" + least, "" + most, "0" + least, nulls + least, nulls + most, "" + (least + most) / 2};
        for (String number : can) {
            good(ahead + number + behind);
            good(ahead + "\n " + number + " " + behind);
        }
        String[] cant = {"" + (most + 1), nulls + (most + 1), "10000", "65536", "4294967296", "4294967297", "18446744073709551617",
            "99999999999999999999999999", "" + (least + 256 * 40), "" + ((1L << 32) + most), "10" + nulls};
        for (String number : cant) {
            fault(ahead + number + behind, 2, ahead.length());
            fault(ahead + " \n" + number + behind, 2, ahead.length() + 2);
            fault(ahead + number, 2, ahead.length());
        }
        if (least > 0) {
            fault(ahead + (least - 1) + behind, 2, ahead.length());
            fault(ahead + nulls + behind, 2, ahead.length());
        }
        fault(ahead + "+" + least + behind, 1, ahead.length());
    }

    private static void depths() {
        sentence = "FAULT 3: the 9th of ( not fare sign if and - (of one ONE) open around one another (at it)";
        String[] opens = {"(", "- ", "fare ", "sign "};
        String[] closes = {")", "", "", ""};
        for (int outer = 0; outer < opens.length; outer++) {
            for (int inner = 0; inner < opens.length; inner++) {
                for (int many = 6; many <= 10; many++) {
                    String ahead = "rides " + many(opens[outer], many);
                    String text = ahead + opens[inner] + "1" + closes[inner] + many(closes[outer], many) + ";";
                    // the 9th one is at the place of the outer's ninth, or of the inner one
                    int place = 6 + 8 * opens[outer].length();
                    fault(text, many + 1 > 8 ? 3 : 0, many + 1 > 8 ? place : -1);
                }
            }
            String eight = many(opens[outer], 8);
            String closed = many(closes[outer], 8);
            good("rides " + eight + "1" + closed + "+" + eight + "1" + closed + "*" + eight + "1" + closed + ";");
            fault("rides " + eight + "if", 3, 6 + eight.length());
            fault("rides " + eight + "not", 1, 6 + eight.length());
            fault("rides " + eight + ")", 1, 6 + eight.length());
            String seven = many(opens[outer], 7);
            String closedSeven = many(closes[outer], 7);
            good("rides " + seven + "if 1=2 then 3 else 4 end" + closedSeven + ";");
            String[] parts = {"if ?=2 then 3 else 4 end", "if 1=? then 3 else 4 end", "if 1=1 and ?=2 then 3 else 4 end",
                "if 1=1 or 1=? then 3 else 4 end", "if 1=2 then ? else 4 end", "if 1=2 then 3 else ? end"};
            for (String part : parts) {
                int at = part.indexOf('?');
                String ahead = "rides " + seven + part.substring(0, at);
                fault(ahead + "(1)" + part.substring(at + 1) + closedSeven + ";", 3, ahead.length());
                fault(ahead + "fare 1", 3, ahead.length());
                fault(ahead + "-1", 3, ahead.length());
                String six = "rides " + many(opens[outer], 6) + part.substring(0, at);
                good(six + "(1)" + part.substring(at + 1) + many(closes[outer], 6) + ";");
                good(six + "-1" + part.substring(at + 1) + many(closes[outer], 6) + ";");
            }
            fault("rides " + seven + "if not 1=2 then", 3, 6 + seven.length() + 3);
            good("rides " + many(opens[outer], 6) + "if not 1=2 then 3 else 4 end" + many(closes[outer], 6) + ";");
            fault("rides " + many(opens[outer], 6) + "if not (1", 3, 6 + 6 * opens[outer].length() + 7);
            // behind the not of an ASK it is open no more
            good("rides " + many(opens[outer], 6) + "if not 1=2 and (1)=1 then (3) else (4) end" + many(closes[outer], 6) + ";");
            good("rides " + many(opens[outer], 6) + "if not 1=2 or not 1=1 then 3 else 4 end" + many(closes[outer], 6) + ";");
        }
        good("rides if " + many("not ", 7) + "1=1 then 1 else 2 end;");
        fault("rides if " + many("not ", 8) + "1=1 then 1 else 2 end;", 3, 9 + 28);
        fault("rides if " + many("not ", 7) + "(1)=1 then 1 else 2 end;", 3, 9 + 28);
        fault("rides if " + many("not ", 7) + "1=sign 1 then 1 else 2 end;", 3, 9 + 30);
        good("rides " + many("if 1=1 then ", 8) + "1" + many(" else 2 end", 8) + ";");
        fault("rides " + many("if 1=1 then ", 9) + "1" + many(" else 2 end", 9) + ";", 3, 6 + 8 * 12);
        good("rides " + many("if 1=1 then 1 else ", 8) + "1" + many(" end", 8) + ";");
        fault("rides " + many("if 1=1 then 1 else ", 9) + "1" + many(" end", 9) + ";", 3, 6 + 8 * 19);
        good("rides " + many("if ", 8) + "1" + many("=1 then 1 else 2 end", 8) + ";");
        fault("rides " + many("if ", 9) + "1" + many("=1 then 1 else 2 end", 9) + ";", 3, 6 + 8 * 3);
        good("rides (-fare sign if not (-1)=2 then 3 else 4 end);");
        fault("rides (-fare sign if not (-fare 1)=2 then 3 else 4 end);", 3, 27);
        sentence = "FAULT 3: those that aren't open any more don't count";
        good("rides " + many("-1-", 60) + "1;");
        good("rides " + many("(1)+", 60) + "1;");
        good("rides " + many("fare 1+", 40) + "1;");
        good("rides " + many("sign 1*", 40) + "1;");
        good("rides if " + many("not 1=1 or ", 20) + "1=1 then 1 else 2 end;");
        good("rides if " + many("not 1=1 and ", 20) + "1=1 then 1 else 2 end;");
        good("rides " + many("if 1=1 then 1 else 2 end+", 10) + "1;");
        good("rides " + many("1-", 120) + "1;");
        sentence = "FAULT 3: a CLAUSE begins without any";
        good("rides " + many("(", 8) + "1" + many(")", 8) + ";costs " + many("-", 8) + "1;");
        fault("rides " + many("(", 8) + "1" + many(")", 8) + ";costs " + many("-", 9) + "1;", 3, 6 + 17 + 7 + 8);
    }

    private static void faultsOfOneToken() {
        sentence = "FAULTS of one TOKEN: the least";
        fault("day 10000 ;", 2, 4);
        fault("day 1 10000;", 1, 6);
        fault("10000;", 1, 0);
        fault("rides 1 10000;", 1, 8);
        fault("lay 1 10000;", 1, 6);
        fault("rides 1 old;", 1, 8);
        fault("costs 1 diff;", 1, 8);
        fault("lay old to 1;", 1, 4);
        fault("rides " + many("(", 8) + "1(", 1, 15);
        fault("rides " + many("(", 8) + "1 fare 1", 1, 16);
        fault("rides " + many("-", 8) + "not 1", 1, 14);
        fault("costs " + many("-", 8) + "diff;", 5, 14);
        fault("costs " + many("-", 8) + "10000;", 2, 14);
        fault(many("day 1;", 24) + "old", 1, 144);
        sentence = "FAULT 5: a NAME that isn't of that CLAUSE (at it)";
        String[] both = {"day", "which", "fund", "open"};
        String[] ofRides = {"diff", "low", "high"};
        String[] ofCosts = {"old", "new", "beside"};
        for (String name : both) {
            good("rides " + name + ";costs " + name + ";");
        }
        for (String name : ofRides) {
            good("rides " + name + ";");
            fault("costs " + name + ";", 5, 6);
            fault("rides " + name + ";costs 1+" + name + ";", 5, 6 + name.length() + 9);
            fault("costs 1;rides " + name + ";costs 2", 4, 14 + name.length() + 1);
        }
        for (String name : ofCosts) {
            good("costs " + name + ";");
            fault("rides " + name + ";", 5, 6);
            fault("costs " + name + ";rides 1+" + name + ";", 5, 6 + name.length() + 9);
            fault("rides if " + name + "=1 then 2 else 3 end;", 5, 9);
            fault("rides if 1=1 then " + name, 5, 18);
        }
    }

    private static void fullTexts() {
        sentence = "TEXTS of up to 300 bytes";
        String[] ends = {"rides 7;", "day 1;", "grant 1;", ""};
        for (String end : ends) {
            good(many(" ", 300 - end.length()) + end);
            good(end + many("\n", 300 - end.length()));
            fault(many(" ", 300 - end.length() - 1) + end + "?", 1, 299);
        }
        fault(many(" ", 293) + "rides 7", 1, 300);
        fault(many(" ", 295) + "rides", 1, 300);
        fault(many("\n", 293) + "grant 0", 2, 299);
    }

    /** In rides both SUMS are the same: HALTS 0, 1, 2 have 5, 2, 6, and LINE 1 is not OPEN. */
    private static void same(String sum, String other, boolean want) {
        FareNumbers x = net("01 12", 5, 2, 6);
        x.turn(1);
        by(x, "rides if " + sum + "=" + other + " then 7 else 2 end;");
        due(sum + " is " + other, x.of(0, 4) == 7, want);
        x = net("01 12", 5, 2, 6);
        x.turn(1);
        by(x, "costs if " + sum + "#" + other + " then 8 else 3 end;");
        due(sum + " is " + other, x.costs(0, 9) == 3, want);
    }

    private static void same(String sum, String other) {
        same(sum, other, true);
        same("(" + sum + ")-1", other, false);
    }

    private static void values() {
        sentence = "what is above 1000000 (below the same less) is that, at each step";
        String most = "1000*1000";
        String nearly = "999*1001";
        same(nearly + "+1", most, true);
        same(nearly, most, false);
        same(most + "-1", nearly);
        same(most + "+1", most, true);
        same(most + "+9999", most, true);
        same(most + "+1-1", nearly);
        same(nearly + "+2-1", nearly);
        same(nearly + "+2", most, true);
        same("101*9901", most, true);
        same("101*9901-1", nearly);
        same("9999*9999-1", nearly);
        same("9999*9999*9999*9999*9999-1", nearly);
        same("(9999*9999)*(9999*9999)-1", nearly);
        same("(9999*9999)*(9999*9999)*(9999*9999)-1", nearly);
        same("9999*9999/9999", "100");
        same("9999*9999+9999*9999-1", nearly);
        String least = "(0-1000*1000)";
        String almost = "(0-999*1001)";
        same("0-999*1001-1", least, true);
        same(almost, least, false);
        same(least + "+1", almost);
        same(least + "-1", least, true);
        same(least + "-1+1", almost);
        same(almost + "-2+1", almost);
        same("-101*9901", least, true);
        same("-101*9901+1", almost);
        same("-9999*9999+1", almost);
        same("-9999*9999*9999*9999+1", almost);
        same("(9999*9999)*(-9999*9999)+1", almost);
        same("(-9999*9999)*(-9999*9999)-1", nearly);
        same("-(-9999*9999)-1", nearly);
        same("-(9999*9999)+1", almost);
        same("0-9999*9999-9999*9999+1", almost);
        same(least + "/(0-1)-1", nearly);
        same("fare(9999*9999)", "0");
        same("sign(9999*9999)", "0");
        sentence = "/ cuts towards 0, by 0 it is 0";
        String[] over = {"7/2", "3", "6/2", "3", "5/2", "2", "1/2", "0", "0/2", "0", "-1/2", "0", "-2/2", "-1", "-3/2", "-1", "-7/2", "-3",
            "7/-2", "-3", "-7/-2", "3", "1/-2", "0", "5/0", "0", "-5/0", "0", "0/0", "0", "9999*9999/0", "0", "-9999*9999/0", "0",
            "5/(3-3)", "0", "5/0+1", "1", "5/0*9", "0", "0/5", "0", "5/1", "5", "5/-1", "-5", "9999/9999", "1", "9998/9999", "0",
            "5/sign 6", "0", "5/fare 7", "0", "8/2/2", "2", "8/2*4", "16", "9-3-2", "4", "2*7/4", "3", "7/4*2", "2"};
        for (int i = 0; i < over.length; i += 2) {
            same(over[i], over[i + 1]);
        }
        sentence = "fare ONE: FARE of the LINE of that number, OPEN or not; 0 for others";
        same("fare 0", "3");
        same("fare 1", "4");
        String[] noLines = {"2", "3", "9", "10", "31", "32", "33", "64", "256", "9999", "-1", "(-2)", "(-32)", "(-9999)", "(9999*9999)",
            "(-9999*9999)", "(32*32*64)"};
        for (String one : noLines) {
            same("fare " + one, "0");
        }
        same("fare 0+1", "4");
        same("fare -0", "3");
        same("-fare 0*2", "-6");
        FareNumbers x = by(net(TEN, 0, 1, 2, 3, 4, 5), "rides if which=fare fare 9-3 then 8 else 2 end;");
        due("of(9, 2)", x.of(9, 2), 4);
        due("rides of LINE 1", x.of(1, 4), 2);
        for (int line = 0; line <= 12; line++) {
            FareNumbers y = by(net(TEN, 0, 1, 2, 3, 4, 5, 6), "rides fare " + line + ";");
            due("fare " + line + " of ten", y.of(0, 4), line < 6 ? line + 1 : line < 10 ? line - 5 : 0);
        }
        due("rides of LINE 2", x.of(2, 4), 8);
        sentence = "sign ONE: NUMBER of the HALT of that number; 0 for others";
        same("sign 0", "5");
        same("sign 1", "2");
        same("sign 2", "6");
        String[] noHalts = {"7", "8", "10", "32", "34", "64", "256", "9999", "-1", "(-2)", "(-7)", "(9999*9999)", "(-9999*9999)"};
        for (String one : noHalts) {
            same("sign " + one, "0");
        }
        x = by(net("01"), "rides sign 6;costs sign 6;");
        x.plate(6, 9);
        due("of(0, 4)", x.of(0, 4), 9);
        due("costs(0, 0)", x.costs(0, 0), 9);
        sentence = "or and and look at both sides always, of if just the SUM that is chosen is asked";
        same("if 1=1 then 3 else 4/0 end", "3");
        same("if 1=2 then 4/0 else 3 end", "3");
        same("if 1=1 or 1/0=1 then 3 else 4 end", "3");
        same("if 1=2 and 1/0=0 then 3 else 4 end", "4");
        same("if 1=2 and 1=2 or 1=1 then 3 else 4 end", "3");
        same("if 1=1 or 1=1 and 1=2 then 3 else 4 end", "3");
        same("if not 1=2 and 1=2 then 3 else 4 end", "4");
        same("if not not 1=1 then 3 else 4 end", "3");
        same("if not not 1=2 then 3 else 4 end", "4");
        same("if not 1=1 then 3 else 4 end", "4");
        same("if not 1=2 then 3 else 4 end", "3");
        same("if not not not 1=2 then 3 else 4 end", "3");
        String[] asks = {"1=2", "1=1"};
        for (int two = 0; two < 4; two++) {
            boolean one = two % 2 == 1;
            boolean other = two / 2 == 1;
            same("if " + asks[two % 2] + " and " + asks[two / 2] + " then 3 else 4 end", one && other ? "3" : "4");
            same("if " + asks[two % 2] + " or " + asks[two / 2] + " then 3 else 4 end", one || other ? "3" : "4");
            same("if not " + asks[two % 2] + " and not " + asks[two / 2] + " then 3 else 4 end", !one && !other ? "3" : "4");
            same("if not " + asks[two % 2] + " or " + asks[two / 2] + " then 3 else 4 end", !one || other ? "3" : "4");
        }
        sentence = "< <= > >= = #: just below, like, just above";
        String[] signs = {"<", "<=", ">", ">=", "=", "#"};
        for (int sign = 0; sign < 6; sign++) {
            for (int differ = -1; differ <= 1; differ++) {
                boolean[] holds = {differ < 0, differ <= 0, differ > 0, differ >= 0, differ == 0, differ != 0};
                same("if " + (5 + differ) + signs[sign] + "5 then 3 else 4 end", holds[sign] ? "3" : "4");
                same("if 0-" + (5 - differ) + signs[sign] + "-5 then 3 else 4 end", holds[sign] ? "3" : "4");
            }
        }
    }

    private static void endsOfLaws() {
        sentence = "rides (of 10): 0 at least, 10 at most";
        String[] sums = {"-9999*9999", "-100", "-1", "0", "1", "5", "9", "10", "11", "99", "256", "265", "9999", "9999*9999"};
        int[] rides = {0, 0, 0, 0, 1, 5, 9, 10, 10, 10, 10, 10, 10, 10};
        for (int i = 0; i < sums.length; i++) {
            FareNumbers x = by(net("01"), "rides " + sums[i] + ";");
            due("rides " + sums[i], x.of(0, 4), rides[i]);
            due("costs without", x.costs(0, 7), 1);
            x.turn(0);
            due("rides " + sums[i] + ", not OPEN", x.of(0, 4), rides[i]);
        }
        sentence = "costs: 0 at least, 99 at most";
        sums = new String[] {"-9999*9999", "-100", "-1", "0", "1", "50", "98", "99", "100", "101", "256", "355", "9999", "9999*9999"};
        int[] costs = {0, 0, 0, 0, 1, 50, 98, 99, 99, 99, 99, 99, 99, 99};
        for (int i = 0; i < sums.length; i++) {
            FareNumbers x = by(net("01"), "costs " + sums[i] + ";");
            due("costs " + sums[i], x.costs(0, 7), costs[i]);
            due("costs " + sums[i] + ", the NUMBER it has", x.costs(0, 0), costs[i]);
            due("rides without", x.of(0, 4), 5);
            boolean can = costs[i] <= 50;
            due("plate(0, 7)", x.plate(0, 7), can ? costs[i] : -1);
            due("is(2)", x.is(2), can ? 50 - costs[i] : 50);
        }
        sentence = "THE TEXT (at first none) rules; rides without: 5, costs without: 1";
        FareNumbers x = net("01");
        due("of(0, 4)", x.of(0, 4), 5);
        due("costs(6, 99)", x.costs(6, 99), 1);
        text(x, "rides 3;costs 4;");
        due("of(0, 4)", x.of(0, 4), 5);
        due("costs(6, 99)", x.costs(6, 99), 1);
        x.by(0);
        due("of(0, 4)", x.of(0, 4), 3);
        due("costs(6, 99)", x.costs(6, 99), 4);
        text(x, "");
        x.by(1);
        due("of(0, 4)", x.of(0, 4), 5);
        due("costs(6, 99)", x.costs(6, 99), 1);
        x.by(-1);
        due("of(0, 4)", x.of(0, 4), 5);
    }

    private static void named() {
        sentence = "NAMES: day";
        FareNumbers x = late(by(net("01"), "rides if day=9999 then 9 else day end;costs if day>9998 then 9 else day end;"), 0);
        due("of(0, 4)", x.of(0, 4), 0);
        due("costs(0, 0)", x.costs(0, 0), 0);
        x.day(7);
        due("of(0, 4)", x.of(0, 4), 7);
        due("costs(0, 0)", x.costs(0, 0), 7);
        x = late(x, 9992);
        due("of(0, 4)", x.of(0, 4), 9);
        due("costs(0, 0)", x.costs(0, 0), 9);
        sentence = "NAMES: which (the LINE, the HALT)";
        x = by(net(TEN), "rides which;costs which;");
        for (int one = 0; one < 10; one++) {
            due("of(" + one + ", 4)", x.of(one, 4), one);
            due("costs(" + one + ", 5)", x.costs(one, 5), one < 7 ? one : -100);
        }
        sentence = "NAMES: fund";
        for (int fund = 99900; fund <= 99999; fund += 99) {
            x = by(rich(fund), "rides if fund=" + fund / 100 + "*100+" + fund % 100 + " then 8 else 2 end;");
            due("of(0, 4)", x.of(0, 4), 8);
            x.turn(0);
            due("of(0, 4)", x.of(0, 4), 8);
        }
        x = by(new FareNumbers(), "costs fund;");
        due("costs(0, 1)", x.costs(0, 1), 50);
        x.plate(0, 1);
        due("costs(0, 2)", x.costs(0, 2), 0);
        x.grant(99);
        due("costs(0, 2)", x.costs(0, 2), 99);
        sentence = "NAMES: open (how many LINES are OPEN)";
        x = by(net(TEN), "rides open;costs open;");
        for (int line = 0; line <= 10; line++) {
            due("of(0, 4)", x.of(0, 4), 10 - line);
            due("costs(6, 0)", x.costs(6, 0), 10 - line);
            x.turn(line);
        }
        due("costs(6, 0) of none", by(new FareNumbers(), "costs open;").costs(6, 0), 0);
        sentence = "NAMES: diff (its FARE), low, high (the lower, the higher NUMBER of its HALTS)";
        int[][] ends = {{0, 99}, {99, 0}, {0, 0}, {99, 99}, {7, 8}, {8, 7}};
        for (int[] two : ends) {
            x = by(net("36", 0, 0, 0, two[0], 0, 0, two[1]), "rides if diff=" + Math.abs(two[0] - two[1]) + " and low="
                + Math.min(two[0], two[1]) + " and high=" + Math.max(two[0], two[1]) + " then 8 else 2 end;");
            due("of(0, 4)", x.of(0, 4), 8);
            x.turn(0);
            due("of(0, 4), not OPEN", x.of(0, 4), 8);
        }
        sentence = "NAMES: old (its NUMBER), new (the other one), beside (how many HALTS are beside it)";
        x = by(net("01 02 03 04 05 06", 99, 7), "costs if old=99 and new=0 then beside+90 else if old=0 and new=99 then beside+80 else old+new+beside end end;");
        due("costs(0, 0)", x.costs(0, 0), 96);
        due("costs(6, 99)", x.costs(6, 99), 81);
        due("costs(1, 8)", x.costs(1, 8), 16);
        due("costs(1, 7), the NUMBER it has", x.costs(1, 7), 15);
        for (int line = 0; line < 6; line++) {
            x.turn(line);
            due("costs(0, 0)", x.costs(0, 0), 95 - line);
        }
        due("costs(6, 99)", x.costs(6, 99), 80);
    }

    /** A text played on such an object: what it answers, and what is then as if these calls had been made. */
    private static void plays(Made made, String text, int want, Asked asHand) {
        FareNumbers x = made.anew();
        int number = text(x, text);
        due("played() of " + text, x.played(number), want);
        FareNumbers y = made.anew();
        text(y, text);
        asHand.of(y);
        alike("played() of " + text, look(x), look(y));
    }

    private static void playedTexts() {
        sentence = "PLAYED: its CLAUSES but laws, as by hand; one that can't be ends it: its number among all";
        Made fresh = () -> net("01 12");
        plays(fresh, "", -1, x -> 0);
        plays(fresh, "rides 3;", -1, x -> 0);
        plays(fresh, "rides 3;costs 9;", -1, x -> 0);
        plays(fresh, "rides 3;grant 1;costs 9;grant 2;", -1, x -> x.grant(1) & x.grant(2) ? 1 : 0);
        plays(fresh, "lay 0 to 6;grant 1;", -1, x -> x.lay(0, 6) + (x.grant(1) ? 1 : 0));
        plays(fresh, "lay 6 to 0;lay 0 to 6;grant 1;", 1, x -> x.lay(6, 0));
        plays(fresh, "lay 3 to 3;grant 1;", 0, x -> 0);
        plays(fresh, "lay 0 to 0;grant 1;", 0, x -> 0);
        plays(fresh, "lay 1 to 0;grant 1;", 0, x -> 0);
        plays(() -> net(TEN.substring(0, 27)), "lay 5 to 6;lay 4 to 6;grant 1;", 1, x -> x.lay(5, 6));
        plays(() -> net(TEN), "rides 1;lay 5 to 6;grant 1;", 1, x -> 0);
        plays(fresh, "plate 99 at 6;plate 0 at 6;grant 1;", -1, x -> x.plate(6, 99) + x.plate(6, 0) + (x.grant(1) ? 1 : 0));
        plays(fresh, "plate 0 at 6;grant 1;", 0, x -> 0);
        plays(fresh, "plate 9 at 0;plate 9 at 0;grant 1;", 1, x -> x.plate(0, 9));
        plays(() -> by(net("01"), "costs 25;"), "plate 9 at 0;costs 0;plate 8 at 0;plate 7 at 0;grant 1;", 3, x -> x.plate(0, 9) + x.plate(0, 8));
        plays(fresh, "turn 1;turn 0;grant 1;", -1, x -> x.turn(1) & x.turn(0) & x.grant(1) ? 1 : 0);
        plays(fresh, "turn 1;turn 2;grant 1;", 1, x -> x.turn(1) ? 1 : 0);
        plays(fresh, "turn 9;", 0, x -> 0);
        plays(() -> net(TEN), "turn 9;", -1, x -> x.turn(9) ? 1 : 0);
        plays(() -> rich(99900), "grant 99;grant 1;turn 0;", 1, x -> x.grant(99) ? 1 : 0);
        plays(() -> rich(99899), "grant 99;grant 1;turn 0;", -1, x -> x.grant(99) & x.grant(1) & x.turn(0) ? 1 : 0);
        sentence = "PLAYED: of so many DAYS those that can pass do";
        plays(fresh, "day 1;day 60;grant 1;", -1, x -> x.day(1) + x.day(60) + (x.grant(1) ? 1 : 0));
        int[] days = {9938, 9939, 9940, 9998, 9999};
        for (int day : days) {
            int can = Math.min(60, 9999 - day);
            plays(() -> late(net("01", 4), day), "rides 0;day 60;grant 1;", can == 60 ? -1 : 1,
                x -> can == 0 ? 0 : x.day(can) + (can == 60 && x.grant(1) ? 1 : 0));
        }
        plays(() -> late(net("01", 4), 9998), "day 1;grant 1;", -1, x -> x.day(1) + (x.grant(1) ? 1 : 0));
        plays(() -> late(net("01", 4), 9998), "day 2;grant 1;", 0, x -> x.day(1));
        plays(() -> late(net("01", 4), 9999), "day 1;grant 1;", 0, x -> 0);
        sentence = "PLAYED: -2 for others";
        refused("played(0)", () -> net("01"), x -> x.played(0), -2);
        refused("played(1)", () -> by(net("01"), "grant 1;"), x -> x.played(1), -2);
        refused("played(-1)", () -> by(net("01"), "grant 1;"), x -> x.played(-1), -2);
    }

    // ---- III, the searches

    /** All that is told of nets without OPEN LINES. */
    private static void nothingIsOpen() {
        sentence = "without OPEN LINES";
        Made[] nets = {
            FareNumbers::new,
            () -> net("", 3, 14, 15, 92, 65, 35, 89),
            () -> shut(net("01")),
            () -> shut(net(TEN, 3, 14, 15, 92, 65, 35, 89)),
            () -> shut(net(TEN, 5, 5, 5)),
            () -> {
                FareNumbers x = net(TEN, 1, 2, 3);
                searched(x);
                return shut(x);
            },
        };
        for (Made made : nets) {
            FareNumbers x = made.anew();
            due("is(3)", x.is(3), 0);
            due("is(4)", x.is(4), 0);
            due("fair()", x.fair(), true);
            due("left()", x.left(), -1);
            due("twin(false)", x.twin(false), -1);
            due("twin(true)", x.twin(true), -1);
            due("wholes()", x.wholes(), 1);
            due("alike(-1)", x.alike(-1), 0);
            due("alikes()", x.alikes(), 1);
            due("span(-1)", x.span(-1), 0);
            due("band(-1)", x.band(-1), 0);
            due("total()", x.total(), 0);
            due("mend()", x.mend(), 0);
            due("names()", x.names(), 5040);
            due("parts()", x.parts(), 7);
            due("cuts()", x.cuts(), 0);
            due("dearest()", x.dearest(), -1);
            due("foretold(60)", x.foretold(60), x.is(2));
            for (int halt = 0; halt < 7; halt++) {
                due("whole(" + halt + ")", x.whole(halt), 0);
                due("span(" + halt + ")", x.span(halt), 0);
                due("band(" + halt + ")", x.band(halt), 0);
                due("apart(3, 3, " + halt + ")", x.apart(3, 3, halt), 0);
                due("ride(0, " + halt + ")", x.ride(0, halt), halt == 0 ? 0 : -1);
                due("change(" + halt + ", 3, 0)", x.change(halt, 3, 0), halt == 3 ? 3 : -2);
                due("ofHalt(" + halt + ", 1)", x.ofHalt(halt, 1), 0);
            }
            for (int line = 0; line < 10; line++) {
                due("alike(" + line + ")", x.alike(line), -1);
                due("unlike(" + line + ")", x.unlike(line), -1);
            }
            for (int marked = 0; marked < 128; marked++) {
                boolean wins = (7 - Integer.bitCount(marked)) % 2 == 1;
                due("game(" + marked + ")", x.game(marked), wins ? 1 : 0);
                due("mark(" + marked + ")", x.mark(marked), wins ? Integer.numberOfTrailingZeros(~marked) : -1);
            }
            for (int near = 0; near <= 3; near++) {
                due("apart(" + near + ", 2, -1)", x.apart(near, 2, -1), 0);
            }
        }
    }

    private static FareNumbers shut(FareNumbers x) {
        for (int line = 0; line < 10; line++) {
            if (x.of(line, 3) == 1) {
                x.turn(line);
            }
        }
        return x;
    }

    private static void searched(FareNumbers x) {
        x.whole(0);
        x.wholes();
        x.span(0);
        x.apart(3, 3, 0);
        x.apart(1, 2, 0);
        x.alike(0);
        x.unlike(0);
        x.band(0);
        x.total();
        x.mend();
        x.names();
        x.game(5);
        x.game(0);
        x.ride(0, 1);
    }

    private static void besideNone() {
        sentence = "in all searches HALTS beside none are left aside (their NUMBER, place 0)";
        for (int a = 0; a < 7; a++) {
            for (int b = a + 1; b < 7; b++) {
                FareNumbers x = net("" + a + b, 9, 8, 7, 6, 5, 4, 3);
                for (int halt = 0; halt < 7; halt++) {
                    due("whole(" + halt + ")", x.whole(halt), halt == b ? 1 : 0);
                    due("span(" + halt + ")", x.span(halt), halt == b ? 1 : 0);
                    due("apart(3, 0, " + halt + ")", x.apart(3, 0, halt), halt == b ? 3 : 0);
                    due("band(" + halt + ")", x.band(halt), halt == b ? 1 : 0);
                }
                due("wholes()", x.wholes(), 2);
                due("span(-1)", x.span(-1), 1);
                due("apart(3, 0, -1)", x.apart(3, 0, -1), 3);
                due("band(-1)", x.band(-1), 1);
                due("total()", x.total(), 1);
                due("alike(-1)", x.alike(-1), 1);
                due("alikes()", x.alikes(), 1);
                due("unlike(0)", x.unlike(0), -1);
                due("mend()", x.mend(), 0);
                due("names()", x.names(), 240);
                due("parts()", x.parts(), 6);
                due("cuts()", x.cuts(), 1);
                x.plate(b, 9 - a);
                due("mend()", x.mend(), 1 << a);
            }
        }
        sentence = "a LINE that isn't OPEN has no weight (NONE)";
        FareNumbers x = net("01 12 34 45");
        x.turn(2);
        x.turn(3);
        int[] unlike = {1, 2, -1, -1, -1};
        for (int line = 0; line <= 4; line++) {
            due("unlike(" + line + ")", x.unlike(line), unlike[line]);
        }
        x.turn(0);
        for (int line = 0; line <= 4; line++) {
            due("alike(" + line + ")", x.alike(line), line == 1 ? 1 : -1);
        }
    }

    private static void openLinesAlone() {
        sentence = "All that follows goes by OPEN LINES alone";
        Asked[] searches = {x -> x.foretold(9), x -> x.fair() ? 1 : 0, x -> x.left(), x -> x.twin(false), x -> x.twin(true),
            x -> x.whole(2), x -> x.wholes(), x -> x.span(2), x -> x.apart(2, 1, 2), x -> x.alike(-1), x -> x.alikes(),
            x -> x.unlike(1), x -> x.band(2), x -> x.total(), x -> x.mend(), x -> x.names(), x -> x.parts(), x -> x.cuts(),
            x -> x.game(0), x -> x.mark(0), x -> x.ride(0, 2), x -> x.change(0, 2, 1), x -> x.dearest()};
        String lines = "01 12 02 34";
        for (int one = 0; one < searches.length; one++) {
            for (int line = 0; line < 4; line++) {
                // the LINES that are OPEN keep their order, one that isn't stands behind them
                String others = lines.replaceFirst(lines.substring(3 * line, 3 * line + 2) + " ?", "").trim();
                FareNumbers x = net(lines, 0, 5, 2, 9, 4);
                searches[one].of(x);
                x.turn(line);
                long got = searches[one].of(x);
                FareNumbers y = net(others, 0, 5, 2, 9, 4);
                boolean byNumber = one == 3 || one == 4 || one == 11 || one == 17 || one == 22;
                if (!byNumber || line == 3) {
                    due("search " + one + " without LINE " + line, got, searches[one].of(y));
                }
                x.turn(line);
                due("search " + one + " with LINE " + line, searches[one].of(x), searches[one].of(net(lines, 0, 5, 2, 9, 4)));
            }
        }
        FareNumbers x = net(lines, 0, 5, 2, 9, 4);
        x.turn(3);
        due("cuts() of a round", x.cuts(), 0);
        x.turn(1);
        due("cuts()", x.cuts(), 5);
        due("names()", x.names(), 48);
        x.turn(0);
        due("names()", x.names(), 240);
        due("cuts()", x.cuts(), 4);
        due("game(0)", x.game(0), 0);
        x.turn(2);
        due("game(0)", x.game(0), 1);
        due("mark(0)", x.mark(0), 0);
        x = net(lines, 0, 5, 2, 9, 4);
        due("parts()", x.parts(), 4);
        x.turn(3);
        due("parts()", x.parts(), 5);
        x = net(lines, 0, 5, 2, 9, 4);
        due("mark(96), two rounds of which each takes one mark", x.mark(96), -1);
        x.turn(3);
        due("mark(96)", x.mark(96), 0);
    }

    private static void left() {
        sentence = "LEFT OUT: of FARES 1 to how many LINES are OPEN (bits from 1 on: FARE 1 is bit 0)";
        String star = "06 16 26 36 46 56";
        for (int lines = 1; lines <= 6; lines++) {
            FareNumbers x = net(star.substring(0, lines * 3 - 1));
            int all = (1 << lines) - 1;
            due("left(), all FARES 0", x.left(), all);
            for (int fare = 1; fare <= lines + 2; fare++) {
                x.plate(0, fare);
                due("left(), a FARE of " + fare, x.left(), fare <= lines ? all & ~(1 << fare - 1) : all);
            }
            x.plate(0, 33);
            due("left(), a FARE of 33", x.left(), all);
            x.plate(0, 65);
            due("left(), a FARE of 65", x.left(), all);
            x.plate(0, 99);
            due("left(), a FARE of 99", x.left(), all);
            x = net(star.substring(0, lines * 3 - 1), 1, 2, 3, 4, 5, 6);
            x.plate(6, 0);
            due("left(), none", x.left(), 0);
            due("fair()", x.fair(), true);
            x.turn(lines - 1);
            due("left(), without the last", x.left(), lines == 1 ? -1 : 0);
            x.turn(lines - 1);
            x.turn(0);
            due("left(), without the first", x.left(), lines == 1 ? -1 : 1);
        }
        FareNumbers x = net(TEN);
        due("left()", x.left(), 1023);
        x.plate(0, 10);
        due("left(), FARES of 10", x.left(), 511);
        x.plate(0, 11);
        due("left(), FARES of 11", x.left(), 1023);
        x.plate(0, 10);
        x.turn(9);
        due("left(), FARES of 10 of 9 LINES", x.left(), 511);
        x.plate(0, 9);
        due("left(), FARES of 9 of 9 LINES", x.left(), 255);
        sentence = "FAIR: no two FARES are alike, none is 0";
        x = net("01", 1);
        due("fair(), a FARE of 1", x.fair(), true);
        x.plate(1, 1);
        due("fair(), a FARE of 0", x.fair(), false);
        x.plate(1, 99);
        due("fair()", x.fair(), true);
        x = net("01 23", 0, 4, 9, 5);
        due("fair(), 4 and 4", x.fair(), false);
        x.plate(2, 10);
        due("fair(), 4 and 5", x.fair(), true);
        x.plate(2, 8);
        due("fair(), 4 and 3", x.fair(), true);
        x.plate(2, 5);
        due("fair(), 4 and 0", x.fair(), false);
        x.turn(1);
        due("fair(), 4", x.fair(), true);
    }

    private static void twins() {
        sentence = "TWINS: the lowest one, then the lowest other above it; none";
        FareNumbers x = net(TEN, 0, 1, 3, 7, 15, 31, 63);
        due("twin(false), all unlike", x.twin(false), -1);
        due("twin(true), all unlike", x.twin(true), -1);
        x.plate(5, 0);
        due("twin(false), the first LINE", x.twin(false), 0);
        due("twin(true), and the last", x.twin(true), 9);
        x.plate(2, 2);
        due("twin(false), of three", x.twin(false), 0);
        due("twin(true), of three", x.twin(true), 6);
        x.turn(6);
        due("twin(false)", x.twin(false), 0);
        due("twin(true)", x.twin(true), 9);
        x.turn(6);
        x.turn(0);
        due("twin(false)", x.twin(false), 6);
        due("twin(true)", x.twin(true), 9);
        x.turn(9);
        due("twin(false)", x.twin(false), -1);
        due("twin(true)", x.twin(true), -1);
        x = net("01 23", 4, 4, 5, 5);
        due("twin(false), FARES of 0", x.twin(false), 0);
        due("twin(true), FARES of 0", x.twin(true), 1);
        x = net("01", 4);
        due("twin(false), one LINE", x.twin(false), -1);
        due("twin(true), one LINE", x.twin(true), -1);
        x = net("01 12 23 34", 0, 5, 8, 5, 0);
        due("twin(false)", x.twin(false), 0);
        due("twin(true)", x.twin(true), 3);
        sentence = "DEAREST: the OPEN LINE of most FARE (0, too); of like ones the lowest; none";
        due("dearest()", x.dearest(), 0);
        x.turn(0);
        due("dearest()", x.dearest(), 3);
        x.turn(3);
        due("dearest()", x.dearest(), 1);
        x.turn(1);
        due("dearest()", x.dearest(), 2);
        x.plate(3, 8);
        due("dearest(), a FARE of 0", x.dearest(), 2);
        x.turn(2);
        due("dearest(), none", x.dearest(), -1);
        x = net(TEN);
        due("dearest(), FARES of 0", x.dearest(), 0);
        x.plate(6, 99);
        due("dearest()", x.dearest(), 5);
        x.turn(5);
        due("dearest(), FARES of 0", x.dearest(), 0);
        x.plate(5, 1);
        due("dearest()", x.dearest(), 4);
        x.turn(4);
        due("dearest(), the last", x.dearest(), 9);
        sentence = "HIGHEST: the HALT of the greatest NUMBER; of like ones the lowest";
        x = new FareNumbers();
        due("highest()", x.highest(), 0);
        x.plate(6, 1);
        due("highest()", x.highest(), 6);
        x.plate(5, 1);
        due("highest()", x.highest(), 5);
        x.plate(0, 1);
        due("highest()", x.highest(), 0);
        x.plate(6, 99);
        due("highest()", x.highest(), 6);
        x.plate(0, 98);
        due("highest()", x.highest(), 6);
        x.plate(0, 99);
        due("highest()", x.highest(), 0);
    }

    /** Rows are told by HALTS from 0 on, or by LINES from 0 on. */
    private static void row(String call, Asked[] asked, FareNumbers x, int... want) {
        for (int i = 0; i < want.length; i++) {
            due(call + " of " + i, asked[i].of(x), want[i]);
        }
    }

    private static Asked[] each(String call) {
        Asked[] all = new Asked[10];
        for (int i = 0; i < 10; i++) {
            int one = i;
            switch (call) {
                case "whole": all[i] = x -> x.whole(one); break;
                case "span": all[i] = x -> x.span(one); break;
                case "band": all[i] = x -> x.band(one); break;
                case "alike": all[i] = x -> x.alike(one); break;
                case "unlike": all[i] = x -> x.unlike(one); break;
                default:
                    all[i] = x -> x.apart(call.charAt(0) - '0', call.charAt(1) - '0', one);
            }
        }
        return all;
    }

    private static void wholeNumbers() {
        sentence = "WHOLE NUMBERS: unlike numbers from 0 to how many LINES are OPEN, no FARE is LEFT OUT";
        // as many HALTS as numbers: a way by 0 n 1 n-1 ..
        FareNumbers x = net("01 12 23 34 45 56");
        row("whole", each("whole"), x, 0, 6, 1, 5, 2, 4, 3);
        x.turn(5);
        row("whole", each("whole"), x, 0, 5, 1, 4, 2, 3, 0);
        x.turn(0);
        x.turn(1);
        x.turn(2);
        row("whole", each("whole"), x, 0, 0, 0, 0, 2, 1, 0);
        sentence = "WHOLE NUMBERS: no way";
        String[] none = {"01 23", "01 23 45", "01 12 34", "01 12 23 34 40", "01 12 23 34 45 50", "01 02 03 04 12 13 14 23 24 34",
            "01 12 20 34", "01 12 20 34 45", "01 12 20 34 45 53"};
        for (String lines : none) {
            x = net(lines);
            row("whole", each("whole"), x, -1, -1, -1, -1, -1, -1, -1);
            due("wholes() of " + lines, x.wholes(), 0);
            // one more number, or more, is needed
            due("span(-1) of " + lines, x.span(-1) > lines.length() / 3 + 1, true);
        }
        sentence = "WHOLE NUMBERS: in how many ways";
        String[] some = {"01", "01 12", "01 12 20", "01 02 03", "01 12 23", "01 12 23 30", "01 02 03 12 13 23", "01 02 03 04 05 06"};
        long[] ways = {2, 4, 12, 12, 4, 16, 48, 2 * 720};
        for (int i = 0; i < some.length; i++) {
            x = net(some[i]);
            due("wholes() of " + some[i], x.wholes(), ways[i]);
            due("span(-1) of " + some[i], x.span(-1), some[i].length() / 3 + 1);
            due("whole(0) of " + some[i], x.whole(0), 0);
        }
        x = net("01");
        for (int round = 0; round < 3; round++) {
            due("wholes()", x.wholes(), 2);
            due("whole(1)", x.whole(1), 1);
            x.turn(0);
            due("wholes(), no LINE is OPEN", x.wholes(), 1);
            due("whole(1), no LINE is OPEN", x.whole(1), 0);
            x.turn(0);
        }
    }

    private static void spans() {
        sentence = "SPAN: unlike numbers from 0 on so that FARES are all unlike: the smallest greatest number";
        FareNumbers x = net("01 23");
        due("span(-1)", x.span(-1), 3);
        row("span", each("span"), x, 0, 3, 1, 2, 0, 0, 0);
        x = net("01 02 03 04 12 13 14 23 24 34");
        due("span(-1)", x.span(-1), 11);
        row("span", each("span"), x, 0, 1, 4, 9, 11, 0, 0);
        x.turn(0);
        // without one LINE of all five HALTS: a FARE may be there twice
        due("span(-1)", x.span(-1) < 11, true);
        x = net("01 12 20");
        due("span(-1)", x.span(-1), 3);
        row("span", each("span"), x, 0, 1, 3, 0);
        // FARES unlike is not enough: 0 and 3 must have unlike numbers, too
        x = net("01 12 23 34 40");
        due("span(-1)", x.span(-1), 6);
        x = net("01 02 03 04 05 06");
        due("span(-1)", x.span(-1), 6);
        row("span", each("span"), x, 0, 1, 2, 3, 4, 5, 6);
        x = net("60 61 62 63 64 65");
        row("span", each("span"), x, 0, 1, 2, 3, 4, 5, 6);
        x.turn(0);
        row("span", each("span"), x, 0, 0, 1, 2, 3, 4, 5);
    }

    private static void apart() {
        sentence = "APART: 0 .. 3 each";
        for (int near = -1; near <= 4; near++) {
            for (int far = -1; far <= 4; far++) {
                FareNumbers x = net("01 12");
                boolean can = near >= 0 && near <= 3 && far >= 0 && far <= 3;
                due("apart(" + near + ", " + far + ", -1)", x.apart(near, far, -1), can ? outerOf(near, far) : -1);
                due("apart(" + near + ", " + far + ", 0)", x.apart(near, far, 0) == -1, !can);
                due("apart(" + near + ", " + far + ", 7)", x.apart(near, far, 7), -1);
                due("apart(" + near + ", " + far + ", -2)", x.apart(near, far, -2), -1);
                x.turn(1);
                due("apart(" + near + ", " + far + ", -1)", x.apart(near, far, -1), can ? near : -1);
                due("apart(" + near + ", " + far + ", 1)", x.apart(near, far, 1), can ? near : -1);
                due("apart(" + near + ", " + far + ", 2)", x.apart(near, far, 2), can ? 0 : -1);
            }
        }
        for (int one : outside(0, 3)) {
            due("apart(" + one + ", 1, -1)", net("01").apart(one, 1, -1), -1);
            due("apart(1, " + one + ", -1)", net("01").apart(1, one, -1), -1);
        }
        sentence = "APART: one asked behind another";
        FareNumbers x = net("01 12");
        for (int round = 0; round < 256; round++) {
            // each pair behind each other one, a far alone being another, too
            int pair = round % 16 * (round / 16 * 2 + 1) % 16;
            due("apart(" + pair / 4 + ", " + pair % 4 + ", -1)", x.apart(pair / 4, pair % 4, -1), outerOf(pair / 4, pair % 4));
        }
        sentence = "APART: those over two LINES, but not beside one another (who are: by near alone)";
        x = net("01 12 20");
        due("apart(1, 3, -1)", x.apart(1, 3, -1), 2);
        due("apart(0, 3, -1)", x.apart(0, 3, -1), 0);
        x.turn(0);
        due("apart(0, 3, -1)", x.apart(0, 3, -1), 3);
        due("apart(1, 3, -1)", x.apart(1, 3, -1), 3);
        // three LINES off, and in other PARTS: neither
        due("apart(0, 3, -1) of two PARTS", net("01 23").apart(0, 3, -1), 0);
        due("apart(1, 3, -1) of two PARTS", net("01 23").apart(1, 3, -1), 1);
        due("apart(2, 3, -1) of three PARTS", net("01 23 45").apart(2, 3, -1), 2);
        x = net("01 12 23");
        due("apart(0, 3, -1)", x.apart(0, 3, -1), 3);
        row("apart(0, 3)", each("03"), x, 0, 0, 3, 3);
        x = net("01 02 03 04 05 06");
        due("apart(3, 3, -1), the greatest of all", x.apart(3, 3, -1), 18);
        row("apart(3, 3)", each("33"), x, 0, 3, 6, 9, 12, 15, 18);
        due("apart(0, 3, -1)", x.apart(0, 3, -1), 15);
        row("apart(0, 3)", each("03"), x, 0, 0, 3, 6, 9, 12, 15);
        due("apart(3, 0, -1)", x.apart(3, 0, -1), 3);
        due("apart(0, 0, -1)", x.apart(0, 0, -1), 0);
        row("apart(0, 0)", each("00"), x, 0, 0, 0, 0, 0, 0, 0);
    }

    /** Of three HALTS in a row the smallest greatest number: the middle is the greatest, or between the two others. */
    private static int outerOf(int near, int far) {
        return Math.min(near + far, Math.max(2 * near, far));
    }

    private static void weights() {
        sentence = "SUMS ALIKE: unlike weights from 1 to how many there are; no way";
        String[] none = {"01 12", "01 23", "01 12 20", "01 02 03", "01 12 23 30", "01 02 03 12 13 23", "01 02 03 04 12 13 14 23 24 34", "01 12 20 34 45 53"};
        for (String lines : none) {
            FareNumbers x = net(lines);
            due("alikes() of " + lines, x.alikes(), 0);
            due("alike(-1) of " + lines, x.alike(-1), -1);
            row("alike of " + lines, each("alike"), x, -1, -1, -1, -1, -1, -1, -1, -1, -1, -1);
        }
        FareNumbers x = net("03 04 05 13 14 15 23 24 25");
        due("alikes()", x.alikes(), 72);
        due("alike(-1)", x.alike(-1), 15);
        row("alike", each("alike"), x, 1, 5, 9, 6, 7, 2, 8, 3, 4, -1);
        x = net("01");
        for (int round = 0; round < 3; round++) {
            due("alikes()", x.alikes(), 1);
            due("alike(-1)", x.alike(-1), 1);
            due("alike(0)", x.alike(0), 1);
            x.turn(0);
            due("alikes(), no LINE is OPEN", x.alikes(), 1);
            due("alike(-1), no LINE is OPEN", x.alike(-1), 0);
            due("alike(0), no LINE is OPEN", x.alike(0), -1);
            x.turn(0);
        }
        for (int line : outside(-1, 9)) {
            due("alike(" + line + ")", x.alike(line), -1);
        }
        due("alike(1), no LINE yet", x.alike(1), -1);
        due("alike(9), no LINE yet", x.alike(9), -1);
        sentence = "SUMS ALIKE: of like rows the lowest is told (by LINES from 0 on)";
        String[] some = {"25 40 53 41 02 21 30 45", "23 30 21 25 43 10 14 50", "41 36 24 62 01 02 03 16", "26 34 53 65 23 02 46 50 40"};
        for (String lines : some) {
            x = net(lines);
            int count = lines.length() / 3 + 1;
            int[] lowest = new int[count];
            long ways = goAlike(lines, new int[count], 0, lowest);
            due("alikes() of " + lines, x.alikes(), ways);
            due("alikes() of so many LINES", ways, count == 8 ? 8 : 72);
            row("alike of " + lines, each("alike"), x, lowest);
        }
        sentence = "SUMS UNLIKE: weights likewise, at no two HALTS with any the same together; no way";
        String[] cant = {"01", "01 23", "01 12 34", "01 02 03 45", "01 12 20 34"};
        for (String lines : cant) {
            x = net(lines);
            row("unlike of " + lines, each("unlike"), x, -1, -1, -1, -1, -1, -1, -1, -1, -1, -1);
        }
        row("unlike", each("unlike"), net("01 12"), 1, 2, -1);
        row("unlike", each("unlike"), net("01 12 23"), 1, 3, 2, -1);
        row("unlike", each("unlike"), net("01 12 20"), 1, 2, 3, -1);
        row("unlike", each("unlike"), net("01 02 03 04 05 06"), 1, 2, 3, 4, 5, 6, -1);
        due("unlike(-1)", net("01 12").unlike(-1), -1);
        due("unlike(10)", net("01 12").unlike(10), -1);
        // of 1 to 4 two and two: 1 + 2 is 3, 1 + 3 is 4, 1 + 4 is 2 + 3
        row("unlike", each("unlike"), net("01 02 34 35"), -1, -1, -1, -1);
        row("unlike", each("unlike"), net("01 02 34 35 36"), 1, 5, 2, 3, 4);
    }

    /** Going through all rows of unlike weights: how many have like sums; the first of them is kept. */
    private static long goAlike(String lines, int[] weights, int from, int[] lowest) {
        if (from == weights.length) {
            if (!haveLikeSums(lines, weights)) {
                return 0;
            }
            if (lowest[0] == 0) {
                System.arraycopy(weights, 0, lowest, 0, weights.length);
            }
            return 1;
        }
        long ways = 0;
        for (int weight = 1; weight <= weights.length; weight++) {
            boolean isFree = true;
            for (int line = 0; line < from; line++) {
                isFree &= weights[line] != weight;
            }
            if (isFree) {
                weights[from] = weight;
                ways += goAlike(lines, weights, from + 1, lowest);
            }
        }
        return ways;
    }

    private static boolean haveLikeSums(String lines, int[] weights) {
        int[] sums = new int[7];
        for (int line = 0; line < weights.length; line++) {
            sums[lines.charAt(3 * line) - '0'] += weights[line];
            sums[lines.charAt(3 * line + 1) - '0'] += weights[line];
        }
        for (int sum : sums) {
            if (sum != 0 && sum != sums[lines.charAt(0) - '0']) {
                return false;
            }
        }
        return true;
    }

    private static void bands() {
        sentence = "A BAND: unlike places from 0 to how many HALTS (with any) are less 1: the greatest FARE is least";
        FareNumbers x = net("01 12 23 34 45 56");
        due("band(-1)", x.band(-1), 1);
        row("band", each("band"), x, 0, 1, 2, 3, 4, 5, 6);
        x = net("06 16 26 36 46 56");
        due("band(-1)", x.band(-1), 3);
        row("band", each("band"), x, 0, 1, 2, 4, 5, 6, 3);
        x = net("01 23 45");
        due("band(-1)", x.band(-1), 1);
        row("band", each("band"), x, 0, 1, 2, 3, 4, 5, 0);
        x = net("01 02 03 04 12 13 14 23 24 34");
        due("band(-1), all of five", x.band(-1), 4);
        row("band", each("band"), x, 0, 1, 2, 3, 4, 0, 0);
        x = net("35 56 63");
        due("band(-1)", x.band(-1), 2);
        row("band", each("band"), x, 0, 0, 0, 0, 0, 1, 2);
        sentence = "ALL FARES: by unlike places the least that FARES can be together";
        String[] nets = {"01", "01 12", "01 12 20", "01 02 03", "01 23 45", "01 02 03 04 05 06", "01 12 23 34 45 56", "01 12 23 34 45 56 60", "01 02 03 04 12 13 14 23 24 34"};
        int[] totals = {1, 2, 4, 4, 3, 12, 6, 12, 20};
        for (int i = 0; i < nets.length; i++) {
            x = net(nets[i]);
            due("total() of " + nets[i], x.total(), totals[i]);
            searched(x);
            due("total() of " + nets[i] + ", behind other searches", x.total(), totals[i]);
        }
    }

    private static void mending() {
        sentence = "TO MEND: the fewest HALTS that must be plated so that all is FAIR; none (0: it is)";
        due("mend()", net("01", 1).mend(), 0);
        due("mend()", net("01").mend(), 1);
        due("mend()", net("01", 99, 99).mend(), 1);
        due("mend()", net("56").mend(), 32);
        due("mend()", net("01 23", 5, 8, 1, 4).mend(), 1);
        due("mend()", net("01 23", 5, 8, 1, 5).mend(), 0);
        sentence = "TO MEND: of like ones the lowest set";
        // FARES 0 and 5: either end of the LINE of 0
        due("mend()", net("45 01", 0, 5, 0, 0, 7, 7).mend(), 16);
        due("mend()", net("01 12", 5, 7, 5).mend(), 1);
        due("mend()", net("60 61").mend(), 3);
        due("mend()", net("01 02 03").mend(), 7);
        due("mend()", net("60 61 62").mend(), 7);
        // 4 alone, though 0 and 1 would do and are lower bits
        due("mend()", net("40 23 41 56", 5, 4, 0, 5, 10, 0, 6).mend(), 16);
        // of five HALTS, all beside one another, one alone may stay: 0 1 4 9 11 have unlike FARES
        String five = "01 02 03 04 12 13 14 23 24 34";
        due("mend(), all are 0", net(five).mend(), 15);
        due("mend(), all are 99", net(five, 99, 99, 99, 99, 99).mend(), 15);
        due("mend(), of a net without HALT 0", net("12 13 14 15 23 24 25 34 35 45").mend(), 30);
        due("mend()", net(five, 0, 1, 4, 9, 11).mend(), 0);
        due("mend(), one FARE is there twice", net(five, 0, 1, 4, 9, 10).mend(), plainMend(five, new int[] {0, 1, 4, 9, 10}));
        sentence = "TO MEND: any other NUMBER 0 .. 20, whatever theirs is";
        // for the lowest set 20 is needed, or 0 is, or 21 would do where another set must
        String[] tight = {
            "14 12 13 10 54 40 34 50 32 42", "30 50 61 02 42 40 26 51", "43 46 42 41 13 25 53 01 03 65", "31 02 03 34 04 42 41 10 23 21",
            "54 01 04 23 24 26 64 15 16 60", "54 50 51 24 20 25 12 13 41 40", "01 53 40 20 25 12 15 30 31 34",
            "35 30 40 15 20 06 61 56 41 25", "25 20 23 21 01 04 31 53 30", "34 31 35 02 50 21 32 25 51 01",
            // the same beside NUMBERS and FARES above 63
            "41 46 45 40 30 15 52 21 60 32", "02 04 06 01 03 42 46 51 23 65", "16 15 13 12 42 32 30 54 65 35", "16 12 15 14 13 36 46 24 43 02",
            "25 21 26 24 20 01 34 51 45 16", "14 10 12 13 34 30 26 20 45 05", "50 53 52 51 10 02 03 31 21 43",
            "01 02", "01 14 24 34", "01 02 03 04 05 06", "01 02 03 04 05 06", "01 12 23 30", "01 12 23 30 45",
        };
        int[][] numbers = {
            {10, 3, 9, 12, 5, 5}, {19, 6, 7, 19, 10, 11, 13}, {11, 15, 16, 18, 8, 19, 14}, {4, 14, 13, 9, 7},
            {0, 13, 15, 12, 6, 11, 10}, {13, 16, 17, 6, 7, 9}, {9, 19, 9, 15, 7, 8},
            {3, 7, 8, 9, 11, 16, 18}, {5, 13, 21, 14, 3, 9}, {12, 8, 15, 14, 9, 13},
            {78, 6, 0, 72, 13, 9, 8}, {86, 82, 5, 12, 9, 76, 71}, {90, 8, 6, 11, 15, 9, 98}, {98, 99, 7, 13, 14, 92, 9},
            {2, 99, 99, 0, 99, 90, 99}, {1, 1, 1, 95, 0, 92, 1}, {1, 1, 99, 0, 1, 0},
            {99, 29, 29}, {29, 99, 99, 9, 29}, {99, 35, 36, 36, 37, 34, 34}, {64, 0, 1, 99, 29, 63, 65}, {99, 0, 99, 35}, {99, 0, 98, 36, 64, 0},
        };
        int[] sets = {16, 1, 2, 2, 5, 3, 3, 4, 1, 8, 2, 2, 4, 4, 22, 7, 11};
        for (int i = 0; i < tight.length; i++) {
            int want = plainMend(tight[i], numbers[i]);
            due("mend() of " + tight[i], net(tight[i], numbers[i]).mend(), want);
            if (i < sets.length) {
                due("the set that is found by going through all, of " + tight[i], want, sets[i]);
            }
        }
    }

    /** The same by going through all sets, and for each through all NUMBERS. */
    private static int plainMend(String lines, int[] numbers) {
        for (int size = 0; size <= 7; size++) {
            for (int set = 0; set < 128; set++) {
                if (Integer.bitCount(set) == size && mends(lines, java.util.Arrays.copyOf(numbers, 7), set)) {
                    return set;
                }
            }
        }
        return -1;
    }

    private static boolean mends(String lines, int[] numbers, int set) {
        if (set == 0) {
            boolean[] had = new boolean[100];
            had[0] = true;
            for (int i = 0; i + 1 < lines.length(); i += 3) {
                int fare = Math.abs(numbers[lines.charAt(i) - '0'] - numbers[lines.charAt(i + 1) - '0']);
                if (had[fare]) {
                    return false;
                }
                had[fare] = true;
            }
            return true;
        }
        int halt = Integer.numberOfTrailingZeros(set);
        for (int number = 0; number <= 20; number++) {
            numbers[halt] = number;
            if (mends(lines, numbers, set & set - 1)) {
                return true;
            }
        }
        return false;
    }

    private static void shapes() {
        sentence = "NAMES: in how many ways HALTS (all seven) can change places";
        String[] nets = {"", "01", "01 12", "01 23", "01 12 20", "01 02 03 04 05 06", "01 12 23 34 45 56", "01 12 23 34 45 56 60",
            "01 02 03 04 12 13 14 23 24 34", "01 02 03 14 15 26", "01 23 45"};
        int[] names = {5040, 2 * 120, 2 * 24, 8 * 6, 6 * 24, 720, 2, 14, 120 * 2, 2, 48};
        int[] parts = {7, 6, 5, 5, 5, 1, 1, 1, 3, 1, 4};
        int[] cuts = {0, 1, 3, 3, 0, 63, 63, 0, 0, 63, 7};
        for (int i = 0; i < nets.length; i++) {
            FareNumbers x = net(nets[i]);
            sentence = "NAMES: in how many ways HALTS (all seven) can change places";
            due("names() of " + nets[i], x.names(), names[i]);
            sentence = "PARTS: HALTS beside none, too, each";
            due("parts() of " + nets[i], x.parts(), parts[i]);
            sentence = "CUTS: OPEN LINES without which there are more PARTS";
            due("cuts() of " + nets[i], x.cuts(), cuts[i]);
        }
        FareNumbers x = net("01 12 20 23 34 42 56");
        due("cuts()", x.cuts(), 64);
        x.turn(0);
        due("cuts(), the first of a round isn't OPEN", x.cuts(), 64 + 2 + 4);
        x.turn(6);
        due("cuts(), the last isn't OPEN", x.cuts(), 6);
        x = net("01 12 23 34 45 56 60 03 14");
        due("cuts()", x.cuts(), 0);
        x.lay(2, 5);
        due("cuts()", x.cuts(), 0);
    }

    private static void games() {
        sentence = "A GAME: bits of HALTS 0 .. 127; NONE for others";
        FareNumbers x = net("01 12 23 34 45 56");
        for (int marked : outside(0, 127)) {
            due("game(" + marked + ")", x.game(marked), -1);
            due("mark(" + marked + ")", x.mark(marked), -1);
        }
        sentence = "A GAME: none free: who begins loses";
        due("game(127)", x.game(127), 0);
        due("mark(127)", x.mark(127), -1);
        // 1, 3 and 5 are beside all others
        due("game(42)", x.game(42), 0);
        due("mark(42)", x.mark(42), -1);
        due("game(74), none is free", x.game(74), 0);
        due("game(10), 5 or 6", x.game(10), 1);
        due("mark(10)", x.mark(10), 5);
        due("game(3), five stay that are beside none", net("01").game(3), 1);
        sentence = "A GAME: some HALTS are marked (maybe beside one another)";
        // 3, 4, 5 and 6 stay, in a row
        due("game(3)", x.game(3), 0);
        due("game(7)", x.game(7), 1);
        due("mark(7), the middle of three", x.mark(7), 5);
        due("game(119), 3 is beside marked ones", x.game(119), 0);
        due("game(126), 0 is beside one", x.game(126), 0);
        due("game(63), 6 is beside one", x.game(63), 0);
        for (int marked = 0; marked < 128; marked++) {
            due("game(" + marked + ")", x.game(marked), nimMark(marked) >= 0 ? 1 : 0);
            due("mark(" + marked + ")", x.mark(marked), nimMark(marked));
        }
        sentence = "A GAME: one HALT is free";
        for (int halt = 0; halt < 7; halt++) {
            FareNumbers y = new FareNumbers();
            due("game", y.game(127 & ~(1 << halt)), 1);
            due("mark", y.mark(127 & ~(1 << halt)), halt);
        }
    }

    /** Of seven HALTS in a row: by which mark who begins wins, or NONE. */
    private static int nimMark(int marked) {
        for (int halt = 0; halt < 7; halt++) {
            int around = 7 << halt >> 1;
            if ((around & marked) == 0 && nimMark(marked | 1 << halt) < 0) {
                return halt;
            }
        }
        return -1;
    }

    private static void rides() {
        sentence = "A RIDE: the least FARES together (0 from itself); no way";
        FareNumbers x = net("01 12 23 34 45 56", 0, 99, 0, 99, 0, 99, 0);
        for (int a = 0; a < 7; a++) {
            for (int b = 0; b < 7; b++) {
                due("ride(" + a + ", " + b + ")", x.ride(a, b), 99 * Math.abs(a - b));
            }
        }
        sentence = "ITS HALTS: the i-th (both ends, too; of a HALT and itself it alone); -2: there is none such";
        x = net("01 12 23 34 45 56", 0, 99, 0, 99, 0, 99, 0);
        for (int i = 0; i < 7; i++) {
            due("change(0, 6, " + i + ")", x.change(0, 6, i), i);
            due("change(6, 0, " + i + ")", x.change(6, 0, i), 6 - i);
            due("change(0, 1, " + i + ")", x.change(0, 1, i), i < 2 ? i : -2);
            due("change(6, 5, " + i + ")", x.change(6, 5, i), i < 2 ? 6 - i : -2);
            due("change(" + i + ", " + i + ", 0)", x.change(i, i, 0), i);
            due("change(" + i + ", " + i + ", 1)", x.change(i, i, 1), -2);
            due("change(" + i + ", " + i + ", -1)", x.change(i, i, -1), -2);
        }
        for (int i : outside(0, 6)) {
            due("change(0, 6, " + i + ")", x.change(0, 6, i), -2);
            due("change(3, 3, " + i + ")", x.change(3, 3, i), -2);
        }
        x.turn(3);
        due("ride(3, 4), no way", x.ride(3, 4), -1);
        due("ride(0, 6), no way", x.ride(0, 6), -1);
        for (int i = -1; i <= 7; i++) {
            due("change(0, 6, " + i + "), no way", x.change(0, 6, i), -2);
        }
        sentence = "A RIDE: of such ways that of fewest LINES, of like ones the lowest second HALT, then the next";
        // from 0 to 6 for 6: by 1, 2, 3, 4, 5 or straight
        x = net("01 12 23 34 45 56 06", 0, 1, 2, 3, 4, 5, 6);
        due("ride(0, 6)", x.ride(0, 6), 6);
        due("change(0, 6, 1)", x.change(0, 6, 1), 6);
        due("change(0, 6, 2)", x.change(0, 6, 2), -2);
        x.turn(6);
        due("ride(0, 6)", x.ride(0, 6), 6);
        due("change(0, 6, 5)", x.change(0, 6, 5), 5);
        x.turn(6);
        x.plate(6, 7);
        x.plate(0, 1);
        due("ride(0, 6), a longer way is as dear", x.ride(0, 6), 6);
        due("change(0, 6, 1)", x.change(0, 6, 1), 6);
        // FARES go ahead of LINES: 1 less by six LINES
        x = net("06 01 12 23 34 45 56");
        x.plate(0, 1);
        due("ride(0, 6)", x.ride(0, 6), 1);
        due("change(0, 6, 1)", x.change(0, 6, 1), 6);
        x = net("05 50 01 12 23 34 45", 0, 0, 0, 0, 0, 0);
        due("ride(0, 5), all 0", x.ride(0, 5), 0);
        due("change(0, 5, 1)", x.change(0, 5, 1), 5);
        x = net("03 32 21 10", 0, 1, 2, 0);
        due("ride(0, 2)", x.ride(0, 2), 2);
        due("change(0, 2, 1), the lower one", x.change(0, 2, 1), 1);
        due("change(2, 0, 1), the lower one", x.change(2, 0, 1), 1);
        x = net("05 54 10 13 34 52 26 46");
        due("change(0, 6, 1), the lower one is farther", x.change(0, 6, 1), 5);
        due("change(0, 6, 2), the lower one", x.change(0, 6, 2), 2);
        due("change(0, 6, 3)", x.change(0, 6, 3), 6);
        due("change(0, 6, 4)", x.change(0, 6, 4), -2);
    }

    // ---- IV, WHOSE LAW, and what is told

    private static void saidAndWhose() {
        sentence = "SAID: 8 at most: -2 if there are 8; line NONE: none any more";
        FareNumbers x = net("01 12");
        due("said(-1, 0) of none", x.said(-1, 0), 0);
        for (int i = 1; i <= 8; i++) {
            due("said", x.said(i % 2, 5), i);
            due("about(4)", x.about(4), i);
        }
        refused("said, the 9th", () -> {
            FareNumbers y = net("01 12");
            for (int i = 0; i < 8; i++) {
                y.said(i % 2, i);
            }
            return y;
        }, y -> y.said(0, 0), -2);
        due("said, the 9th", x.said(1, 5), -2);
        due("about(4)", x.about(4), 8);
        due("said(-1, 5)", x.said(-1, 5), 0);
        due("about(4)", x.about(4), 0);
        due("said(1, 5)", x.said(1, 5), 1);
        sentence = "SAID: a LINE, OPEN or not, rides 0 .. 10; -2 for others";
        due("said(0, 0)", x.said(0, 0), 2);
        due("said(0, 10)", x.said(0, 10), 3);
        x.turn(0);
        due("said(0, 10), not OPEN", x.said(0, 10), 4);
        for (int rides : outside(0, 10)) {
            due("said(0, " + rides + ")", x.said(0, rides), -2);
        }
        for (int line : outside(-1, 1)) {
            due("said(" + line + ", 5)", x.said(line, 5), -2);
        }
        due("about(4)", x.about(4), 4);
        refused("said(2, 5)", () -> net("01 12"), y -> y.said(2, 5), -2);
        refused("said(0, 11)", () -> net("01 12"), y -> y.said(0, 11), -2);
        refused("said(0, -1)", () -> net("01 12"), y -> y.said(0, -1), -2);
        sentence = "WHOSE LAW: TEXTS (bits) by whose rides all are so (a TEXT without it: by what is so without)";
        x = net("01 12");
        due("whose(), no TEXT", x.whose(), 0);
        x.said(0, 5);
        due("whose(), no TEXT", x.whose(), 0);
        x.said(-1, 5);
        text(x, "rides 5;");
        due("whose(), nothing is SAID", x.whose(), 1);
        text(x, "costs 3;");
        due("whose(), nothing is SAID", x.whose(), 3);
        text(x, "rides which+5;");
        text(x, "rides 99;");
        due("whose(), nothing is SAID", x.whose(), 15);
        x.said(0, 5);
        due("whose()", x.whose(), 7);
        x.said(1, 6);
        due("whose()", x.whose(), 4);
        x.said(0, 5);
        due("whose()", x.whose(), 4);
        x.said(1, 5);
        due("whose(), both can't be", x.whose(), 0);
        x.said(-1, 5);
        x.said(0, 10);
        due("whose(), 10 of 99", x.whose(), 8);
        x.by(0);
        due("whose(), whatever rules", x.whose(), 8);
        x.turn(0);
        due("whose(), not OPEN", x.whose(), 8);
        sentence = "WHOSE LAW: the 8th that is SAID counts, too";
        x = net("01 12");
        text(x, "rides 3;");
        text(x, "rides 3+which;");
        for (int i = 0; i < 7; i++) {
            x.said(0, 3);
        }
        due("whose()", x.whose(), 3);
        x.said(1, 3);
        due("whose()", x.whose(), 1);
        sentence = "WHOSE LAW (as now)";
        x = net("01");
        text(x, "rides day;");
        x.said(0, 0);
        due("whose()", x.whose(), 1);
        x.day(1);
        due("whose()", x.whose(), 0);
        x.undo();
        due("whose()", x.whose(), 1);
    }

    private static void toldOfAll() {
        sentence = "is: 3 OPEN LINES (bits), 4 FARES of all OPEN ones";
        FareNumbers x = net(TEN, 99);
        due("is(3)", x.is(3), 1023);
        due("is(4)", x.is(4), 6 * 99);
        x.plate(1, 99);
        due("is(4)", x.is(4), 9 * 99);
        x.turn(9);
        due("is(3)", x.is(3), 511);
        due("is(4)", x.is(4), 8 * 99);
        x.turn(0);
        due("is(3)", x.is(3), 510);
        due("is(4), without a FARE of 0", x.is(4), 8 * 99);
        due("is(3) of none", new FareNumbers().is(3), 0);
        due("is(4) of none", new FareNumbers().is(4), 0);
        sentence = "about: 2 THE TEXT (NONE)";
        due("about(2)", x.about(2), -1);
        text(x, "");
        due("about(2)", x.about(2), -1);
        x.by(0);
        due("about(2)", x.about(2), 0);
        text(x, "");
        text(x, "");
        text(x, "");
        x.by(3);
        due("about(2)", x.about(2), 3);
    }

    // ---- V, YEARS

    private interface Kind {
        boolean is(int x);
    }

    /** The lowest SEED whose first draw does nothing and whose second one is such a number. */
    private static int seedOf(Kind kind) {
        for (int seed = 0; seed <= 9999; seed++) {
            int x = seed * 2 + 439;
            if (x % 6 == 1 && x % 4 == 1 && kind.is(drawnBehind(x))) {
                return seed;
            }
        }
        return -1;
    }

    private static int drawnBoth(int seed) {
        return drawnBehind(drawnBehind(seed * 2 + 439));
    }

    private static void yearsByTheirEnds() {
        sentence = "YEARS: SEED (0 .. 9999), n times (1 .. 40); NONE for others";
        for (int seed : new int[] {0, 1, 9998, 9999}) {
            FareNumbers x = new FareNumbers();
            int drawn = seed * 2 + 439;
            due("years(" + seed + ", 1)", x.years(seed, 1), drawn % 6 >= 3 ? 1 : 0);
            due("is(1)", x.is(1), drawnBehind(drawn));
            due("about(3)", x.about(3), 1);
            int days = 0;
            for (int i = 0; i < 40; i++) {
                days += drawn % 6 >= 3 ? 1 : 0;
                drawn = drawnBehind(drawn);
            }
            int before = x.is(0);
            due("years(" + seed + ", 40)", x.years(seed, 40), before + days);
            due("is(1)", x.is(1), drawn);
            due("about(3)", x.about(3), 2);
        }
        for (int seed : outside(0, 9999)) {
            due("years(" + seed + ", 1)", new FareNumbers().years(seed, 1), -1);
        }
        for (int n : outside(1, 40)) {
            due("years(0, " + n + ")", new FareNumbers().years(0, n), -1);
        }
        Made made = () -> net("01 12", 3, 5);
        refused("years(-1, 1)", made, x -> x.years(-1, 1), -1);
        refused("years(10000, 1)", made, x -> x.years(10000, 1), -1);
        refused("years(0, 0)", made, x -> x.years(0, 0), -1);
        refused("years(0, 41)", made, x -> x.years(0, 41), -1);
        sentence = "YEARS: It is one STEP, of 30 at most, also where nothing is done";
        FareNumbers x = new FareNumbers();
        int nothing = seedOf(one -> one % 6 == 1 && one % 4 == 1);
        for (int i = 1; i <= 35; i++) {
            due("years", x.years(nothing, 2), 0);
            due("about(3)", x.about(3), Math.min(30, i));
            due("book(-1, 0)", x.book(-1, 0), 0);
            due("is(1)", x.is(1), drawnBoth(nothing));
        }
        x = new FareNumbers();
        x.grant(1);
        x.years(77, 40);
        due("undo()", x.undo(), 1);
        due("is(1)", x.is(1), 439);
        due("is(2)", x.is(2), 51);
    }

    /** Two draws on such an object, the first doing nothing: the second one does this, or (null) nothing, too. */
    private static void draw(String call, Made made, Kind kind, Asked asHand) {
        int seed = seedOf(kind);
        if (seed < 0) {
            due("there is a SEED for " + call, 0, 1);
            return;
        }
        FareNumbers x = made.anew();
        int days = x.is(0);
        x.years(seed, 2);
        days = x.is(0) - days;
        FareNumbers y = made.anew();
        int drawn = drawnBoth(seed);
        for (int i = 0; i < days * Integer.bitCount(x.is(3)); i++) {
            drawn = drawnBehind(drawn);
        }
        if (asHand == null) {
            // a STEP that does nothing but to X
            y.years(seedOf(one -> one % 6 == 1 && one % 4 == 1), 2);
        } else {
            asHand.of(y);
        }
        due(call + ": is(1)", x.is(1), drawn);
        alike(call, apartFromX(look(x)), apartFromX(look(y)));
    }

    /** All that is told but X, which YEARS make anew. */
    private static String apartFromX(String told) {
        String[] parts = told.split("\\| ");
        String[] is = parts[1].split(" ");
        is[1] = "X";
        parts[1] = String.join(" ", is) + " ";
        return String.join("| ", parts);
    }

    private static void yearsThatCant() {
        sentence = "YEARS: 0 HALT x / 6 mod 7 is PLATED x mod 20 (if it can be; else nothing)";
        for (int halt = 0; halt < 7; halt++) {
            int one = halt;
            draw("plated 18", () -> net("01"), x -> x % 6 == 0 && x / 6 % 7 == one && x % 20 == 18, x -> x.plate(one, 18));
            draw("plated 0, as it is", () -> net("01"), x -> x % 6 == 0 && x / 6 % 7 == one && x % 20 == 0, null);
            draw("plated 0, of 99", () -> net("01", 99, 99, 99, 99, 99, 99, 99),
                x -> x % 6 == 0 && x / 6 % 7 == one && x % 20 == 0, x -> x.plate(one, 0));
        }
        Kind plated = x -> x % 6 == 0 && x / 6 % 7 == 3 && x % 20 == 6;
        draw("plated for all", () -> by(net("01"), "costs 50;"), plated, x -> x.plate(3, 6));
        draw("plated for more", () -> by(net("01"), "costs 51;"), plated, null);
        draw("plated for nothing", () -> by(net("01"), "costs 0;"), plated, x -> x.plate(3, 6));
        sentence = "YEARS: 1 LINE x / 6 mod 10 is TURNED, if x mod 4 is 3";
        // of numbers that are 1 mod 6, those that are 3 mod 4 have an odd LINE, the others an even one
        for (int line = 1; line < 10; line += 2) {
            int one = line;
            Kind turned = x -> x % 6 == 1 && x / 6 % 10 == one && x % 4 == 3;
            String had = TEN.substring(0, line * 3 - 1);
            String has = TEN.substring(0, line * 3 + 2);
            draw("turned, not there", () -> net(had), turned, null);
            draw("turned", () -> net(has), turned, x -> x.turn(one) ? 1 : 0);
            draw("turned, not OPEN", () -> shut(net(has)), turned, x -> x.turn(one) ? 1 : 0);
            draw("not turned", () -> net(TEN), x -> x % 6 == 1 && x / 6 % 10 == one - 1 && x % 4 == 1, null);
        }
        sentence = "YEARS: 2 1 and x / 6 mod 9 is GRANTED (if it can be; else nothing)";
        for (int more = 0; more < 9; more++) {
            int one = more;
            Kind granted = x -> x % 6 == 2 && x / 6 % 9 == one;
            draw("granted", () -> net("01"), granted, x -> x.grant(1 + one) ? 1 : 0);
            draw("granted to 99999", () -> rich(99998 - one), granted, x -> x.grant(1 + one) ? 1 : 0);
            draw("granted beyond 99999", () -> rich(99999 - one), granted, null);
            draw("granted beyond 99999", () -> rich(99999), granted, null);
        }
        sentence = "YEARS: 3, 4, 5 a DAY (if it can pass)";
        for (int kind = 3; kind <= 5; kind++) {
            int one = kind;
            draw("a DAY", () -> net(""), x -> x % 6 == one, x -> x.day(1));
            draw("a DAY, the last", () -> late(net(""), 9998), x -> x % 6 == one, x -> x.day(1));
            for (int lacks = 98; lacks <= 100; lacks++) {
                int fund = 99999 - lacks;
                draw("a DAY, FUND at its end", () -> {
                    FareNumbers rich = rich(fund);
                    rich.turn(3);
                    return rich;
                }, x -> x % 6 == one, x -> x.day(1));
            }
            draw("a DAY, none can pass", () -> late(net("01", 9), 9999), x -> x % 6 == one, null);
        }
        sentence = "YEARS: X is anew (as in a draw) ahead of what a DAY draws";
        for (int seed = 0; seed < 50; seed++) {
            int x = seed * 2 + 439;
            FareNumbers y = by(net("01 12 23", 9), "rides 4;");
            y.turn(1);
            due("years(" + seed + ", 1)", y.years(seed, 1), x % 6 >= 3 ? 1 : 0);
            if (x % 6 >= 3) {
                int drawn = drawnBehind(x);
                due("is(2)", y.is(2), drawn % 10 < 4 ? 58 : 49);
                due("is(1)", y.is(1), drawnBehind(drawnBehind(drawn)));
            }
        }
    }

    // ---- an image, and the calls of an object

    private static FareNumbers full() {
        FareNumbers x = net(TEN, 7, 14, 21, 28, 35, 42, 49);
        late(x, 9990);
        by(x, "rides 7;costs 2;");
        text(x, "rides which;");
        x.by(1);
        text(x, "lay 5 to 6;");
        text(x, "");
        for (int i = 0; i < 8; i++) {
            x.said(i, i);
        }
        x.turn(9);
        return x;
    }

    private static void images() {
        sentence = "A new object: THE IMAGE is this";
        String fresh = look(new FareNumbers());
        FareNumbers x = full();
        x.end(0);
        due("back()", x.back(), 0);
        alike("back()", look(x).replace("| 0 -1 | ", "| -1 -1 | "), fresh);
        due("undo()", x.undo(), -1);
        due("lay(3, 4)", x.lay(3, 4), 0);
        due("back()", x.back(), 0);
        due("about(0)", x.about(0), 0);
        sentence = "AN IMAGE: all as it is, but the tape and the latest FAULT; BACK: all is so again (it stays)";
        x = full();
        due("image()", x.image(), 9990);
        String want = look(full());
        due("whose(), by what is SAID", full().whose(), 2);
        Asked[] others = {
            y -> y.day(9),
            y -> y.undo() + y.undo() + y.undo(),
            y -> y.turn(9) & y.turn(0) ? 1 : 0,
            y -> y.said(-1, 0),
            y -> {
                y.said(-1, 0);
                for (int i = 0; i < 8; i++) {
                    y.said(9 - i, 9 - i);
                }
                return 0;
            },
            y -> y.by(-1) ? 1 : 0,
            y -> y.years(9999, 40),
            y -> y.plate(0, 0) + y.plate(6, 99),
        };
        for (Asked other : others) {
            FareNumbers y = full();
            y.image();
            other.of(y);
            other.of(y);
            due("back()", y.back(), 9990);
            alike("image() .. back()", look(y), want);
        }
        for (Asked other : others) {
            other.of(x);
            due("back()", x.back(), 9990);
        }
        sentence = "BACK: the STEPS that can be taken back are those of THE IMAGE";
        for (int many = 0; many <= 30; many += 6) {
            FareNumbers y = net("01 12", 4, 9);
            FareNumbers z = net("01 12", 4, 9);
            for (int i = 0; i < 33; i++) {
                y.grant(1 + i);
                z.grant(1 + i);
            }
            y.image();
            for (int i = 0; i < many; i++) {
                y.undo();
            }
            for (int i = 0; i < 40 - many; i++) {
                y.turn(i % 2);
            }
            y.back();
            for (int i = 29; i >= 0; i--) {
                due("undo()", y.undo(), i);
                due("undo()", z.undo(), i);
                due("is(2)", y.is(2), z.is(2));
                due("is(3)", y.is(3), 3);
            }
            alike("all STEPS taken back", look(y), look(z));
        }
        sentence = "AN IMAGE: all as it is, again and again";
        alike("image() .. back(), again and again", look(x), want);
        due("undo()", x.undo(), 29);
        due("image()", x.image(), 9990);
        due("back()", x.back(), 9990);
        due("about(3)", x.about(3), 29);
        sentence = "AN IMAGE with more than there is ahead of BACK, and with less";
        x = full();
        x.back();
        x.image();
        due("lay(5, 6)", x.lay(5, 6), 0);
        due("text()", text(x, "grant 3;"), 0);
        x.said(0, 5);
        x.grant(5);
        due("back()", x.back(), 0);
        due("about(0)", x.about(0), 0);
        due("about(1)", x.about(1), 0);
        due("about(3)", x.about(3), 0);
        due("about(4)", x.about(4), 0);
        due("lay(2, 3)", x.lay(2, 3), 0);
        due("of(0, 0)", x.of(0, 0), 2);
        due("of(0, 3)", x.of(0, 3), 1);
        due("played(0)", x.played(0), -2);
        due("text()", text(x, "grant 4;"), 0);
        due("played(0)", x.played(0), -1);
        due("is(2)", x.is(2), 54);
        due("whose()", x.whose(), 1);
        sentence = "AN IMAGE holds neither the tape nor the latest FAULT";
        x = new FareNumbers();
        text(x, "day 0;");
        feed(x, "day 1;");
        x.image();
        text(x, "rides old;");
        feed(x, "day 1");
        x.back();
        due("about(5)", x.about(5), 5);
        due("fault(0)", x.fault(0), 5);
        due("fault(1)", x.fault(1), 6);
        due("text()", x.text(), -1);
        due("fault(1)", x.fault(1), 5);
    }

    private static void manyCalls() {
        sentence = "An object is used for at most 512 calls after it has been made";
        FareNumbers x = new FareNumbers();
        for (int i = 0; i < 511; i++) {
            due("grant(1), call " + i, x.grant(1), true);
        }
        due("is(2), the 512th call", x.is(2), 561);
        x = net(TEN);
        for (int i = 10; i < 511; i++) {
            due("turn, call " + i, x.turn(i % 10), true);
        }
        due("is(3), the 512th call", x.is(3), 1022);
        x = new FareNumbers();
        for (int i = 0; i < 511; i++) {
            x.years(i, 40);
        }
        due("undo(), the 512th call", x.undo(), 29);
    }

    private static void asksChangeNothing() {
        sentence = "all that follows changes nothing but what is told";
        Made[] all = {FareNumbers::new, () -> net("01 12 20"), () -> net(TEN, 1, 2, 3), EdgesTest::full,
            () -> late(by(net("01", 9), "rides 9;"), 9999), () -> rich(99999)};
        for (Made made : all) {
            FareNumbers x = made.anew();
            ask(x, 0);
            ask(x, 6);
            x.foretold(60);
            x.foretold(1);
            alike("all that is asked", look(x), look(made.anew()));
            due("about(3)", x.about(3), made.anew().about(3));
        }
    }

    private static void ask(FareNumbers x, int i) {
        searched(x);
        x.of(i, 4);
        x.ofHalt(i, 1);
        x.costs(i, 3);
        x.fair();
        x.left();
        x.twin(true);
        x.alikes();
        x.parts();
        x.cuts();
        x.mark(i);
        x.change(0, i, 1);
        x.whose();
        x.dearest();
        x.highest();
        x.ledger(2);
        x.book(i, 3);
        x.foretold(i);
    }
}
