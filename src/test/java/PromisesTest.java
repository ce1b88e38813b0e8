/** The promises one by one: ordinary calls, the edges that the document names, and wrong ones. */
public final class PromisesTest {
    private static int wrong = 0;
    private static int promise = 0;

    private static void due(String call, long got, long want) {
        if (got != want) {
            wrong++;
            System.out.println("promise " + promise + ": " + call + " answered " + got + ", due is " + want);
        }
    }

    private static void due(String call, boolean got, boolean want) {
        due(call, got ? 1 : 0, want ? 1 : 0);
    }

    public static void main(String[] args) {
        net();
        tape();
        hands();
        days();
        played();
        years();
        undo();
        told();
        fares();
        numbers();
        apart();
        weights();
        places();
        mend();
        shape();
        game();
        rides();
        whose();
        image();
        manyNets();
        besideNone();
        if (wrong != 0) {
            System.out.println(wrong + " answers are not as due");
            System.exit(1);
        }
        System.out.println("all promises hold");
    }

    /** A net of these LINES: 01 12 is from 0 to 1 and from 1 to 2. */
    private static FareNumbers net(String lines) {
        FareNumbers x = new FareNumbers();
        lines(x, lines);
        return x;
    }

    private static void signs(FareNumbers x, int... numbers) {
        for (int halt = 0; halt < numbers.length; halt++) {
            x.plate(halt, numbers[halt]);
        }
    }

    private static void feed(FareNumbers x, String text) {
        x.end(0);
        for (int at = 0; at < text.length(); at += 20) {
            int[] fours = new int[5];
            for (int i = 0; i < 20 && at + i < text.length(); i++) {
                fours[i / 4] |= text.charAt(at + i) << 24 - i % 4 * 8;
            }
            x.feed(fours[0], fours[1], fours[2], fours[3], fours[4]);
        }
        x.end(text.length());
    }

    private static int text(FareNumbers x, String text) {
        feed(x, text);
        return x.text();
    }

    private static void net() {
        promise = 1;
        FareNumbers x = new FareNumbers();
        for (int what = 0; what <= 5; what++) {
            due("about(" + what + ")", x.about(what), what == 2 ? -1 : 0);
        }
        due("is(0)", x.is(0), 0);
        due("is(1)", x.is(1), 439);
        due("is(2)", x.is(2), 50);
        due("NONE", FareNumbers.NONE, -1);
        x.lay(0, 1);
        x.plate(0, 5);
        due("back()", x.back(), 0);
        due("about(0)", x.about(0), 0);
        due("is(2)", x.is(2), 50);
        promise = 2;
        x = new FareNumbers();
        due("lay(0, 6)", x.lay(0, 6), 0);
        due("lay(6, 0)", x.lay(6, 0), -1);
        due("lay(0, 6)", x.lay(0, 6), -1);
        due("lay(3, 3)", x.lay(3, 3), -1);
        due("lay(-1, 3)", x.lay(-1, 3), -1);
        due("lay(3, 7)", x.lay(3, 7), -1);
        due("lay(7, 3)", x.lay(7, 3), -1);
        due("lay(3, -1)", x.lay(3, -1), -1);
        for (int i = 1; i < 10; i++) {
            due("lay", x.lay(i % 5, i <= 5 ? 5 : 6), i);
        }
        due("lay(5, 6)", x.lay(5, 6), -1);
        due("about(0)", x.about(0), 10);
        due("of(0, 3)", x.of(0, 3), 1);
    }

    /** A search is anew for another net, however many were asked for ahead. */
    private static void manyNets() {
        promise = 26;
        FareNumbers x = new FareNumbers();
        for (int i = 0; i < 98; i++) {
            String lines = "" + i % 7 + (i / 7 + 1) % 7 + " " + (i + 1) % 7 + (i / 3 + 2) % 7 + " " + (i + 5) % 7 + (i / 9) % 7;
            FareNumbers fresh = net(lines);
            x.back();
            for (int at = 0; at < lines.length(); at += 3) {
                x.lay(lines.charAt(at) - '0', lines.charAt(at + 1) - '0');
            }
            for (int halt = 0; halt < 7; halt++) {
                due("span", x.span(halt), fresh.span(halt));
                due("band", x.band(halt), fresh.band(halt));
                due("apart", x.apart(1, 2, halt), fresh.apart(1, 2, halt));
                due("alike", x.alike(halt), fresh.alike(halt));
                due("unlike", x.unlike(halt), fresh.unlike(halt));
                due("wholes", x.wholes(), fresh.wholes());
            }
            if (i % 6 == 5) {
                x = new FareNumbers();
            }
        }
        for (int first = 0; first < 49; first++) {
            for (int second = 0; second < 49; second++) {
                if (first / 7 < first % 7 && second / 7 < second % 7) {
                    oneLine(first, second);
                }
            }
        }
    }

    private static void oneLine(int first, int second) {
        FareNumbers x = new FareNumbers();
        x.lay(first / 7, first % 7);
        due("span", x.span(first % 7), 1);
        due("band", x.band(first % 7), 1);
        due("apart", x.apart(2, 2, first % 7), 2);
        x.back();
        x.lay(second / 7, second % 7);
        due("span", x.span(second % 7), 1);
        due("span", x.span(second / 7), 0);
        due("band", x.band(second % 7), 1);
        due("apart", x.apart(2, 2, second % 7), 2);
        due("apart", x.apart(2, 2, second / 7), 0);
        due("apart", x.apart(3, 2, second % 7), 3);
        due("apart", x.apart(3, 3, second % 7), 3);
    }

    /** In all searches HALTS beside none are left aside: 0 is told of them, whatever NUMBER they have. */
    private static void besideNone() {
        String[] nets = {"", "01", "24 46", "01 12 02", "36 35 56", "01 02 03 12 13 23", "06 16 26 36", "01 23 45"};
        for (String from : nets) {
            FareNumbers x = net(from);
            signs(x, 3, 14, 15, 92, 65, 35, 89);
            aside(x);
            for (int line = 0; line < from.length() / 3 + 1; line++) {
                x.turn(line);
                aside(x);
            }
            for (String to : nets) {
                // rows of a net that has all HALTS, and of another one, are there ahead of it
                x = net("01 12 23 34 45 56");
                signs(x, 3, 14, 15, 92, 65, 35, 89);
                aside(x);
                x.back();
                lines(x, from);
                x.years(26, 9);
                aside(x);
                x.back();
                lines(x, to);
                signs(x, 1, 1, 1, 1, 1, 1, 1);
                aside(x);
            }
        }
    }

    private static void lines(FareNumbers x, String lines) {
        for (int i = 0; i + 1 < lines.length(); i += 3) {
            x.lay(lines.charAt(i) - '0', lines.charAt(i + 1) - '0');
        }
    }

    private static void aside(FareNumbers x) {
        int wholes = x.wholes() == 0 ? -1 : 0;
        for (int halt = 0; halt < 7; halt++) {
            if (x.ofHalt(halt, 1) != 0) {
                continue;
            }
            promise = 24;
            due("whole(" + halt + ") beside none", x.whole(halt), wholes);
            promise = 26;
            due("span(" + halt + ") beside none", x.span(halt), 0);
            promise = 27;
            for (int near = 0; near <= 3; near++) {
                due("apart(.., " + halt + ") beside none", x.apart(near, 3 - near, halt), 0);
            }
            promise = 31;
            due("band(" + halt + ") beside none", x.band(halt), 0);
        }
    }

    private static void tape() {
        promise = 3;
        FareNumbers x = new FareNumbers();
        for (int i = 1; i <= 15; i++) {
            due("feed", x.feed(0, 0, 0, 0, 0), 20 * i);
        }
        due("feed", x.feed(0, 0, 0, 0, 0), -1);
        due("about(5)", x.about(5), 300);
        due("end(281)", x.end(281), 281);
        due("feed", x.feed(0, 0, 0, 0, 0), -1);
        due("end(280)", x.end(280), 280);
        due("feed", x.feed(0, 0, 0, 0, 0), 300);
        promise = 4;
        due("end(301)", x.end(301), -1);
        due("end(-1)", x.end(-1), -1);
        due("about(5)", x.about(5), 300);
        due("end(300)", x.end(300), 300);
        due("end(7)", x.end(7), 7);
        due("end(8)", x.end(8), -1);
        due("end(0)", x.end(0), 0);
        promise = 5;
        due("text() of nothing", x.text(), 0);
        due("text()", text(x, "day 1;"), 1);
        due("about(5)", x.about(5), 0);
        due("text()", text(x, "day 0;"), -1);
        due("about(5)", x.about(5), 0);
        due("text()", text(x, "\n day\n1 ; "), 2);
        due("text()", text(x, "rides if not 1<2 or 2>=1 and 3#3 then (fare 1) else -sign 2/0 end;"), 3);
        due("fault(0)", x.fault(0), 0);
        due("text()", text(x, "day 0;"), -1);
        due("about(5)", x.about(5), 6);
        due("fault(0)", x.fault(0), 0);
        due("about(1)", x.about(1), 4);
        promise = 6;
        faults();
    }

    private static void faults() {
        FareNumbers x = new FareNumbers();
        due("fault(0)", x.fault(0), -1);
        due("fault(1)", x.fault(1), -1);
        text(x, "day 1;");
        due("fault(0)", x.fault(0), 0);
        due("fault(1)", x.fault(1), -1);
        due("fault(2)", x.fault(2), -1);
        due("fault(-1)", x.fault(-1), -1);
        fault("day 1", 1, 5);
        fault("day 1  \n", 1, 8);
        fault("Day 1;", 1, 0);
        fault("days 1;", 1, 0);
        fault("day 1;;", 1, 6);
        fault("day x;", 1, 4);
        fault("dayZ 1;", 1, 0);
        fault("dayA 1;", 1, 0);
        fault("dayz 1;", 1, 0);
        fault("adaya 1;", 1, 0);
        fault("day[1;", 1, 3);
        fault("day@1;", 1, 3);
        fault("day{1;", 1, 3);
        fault("day`1;", 1, 3);
        fault("day1;day9;", 0, -1);
        fault("day 1:", 1, 5);
        fault("day /1;", 1, 4);
        fault("sides 1;", 1, 0);
        fault("ride 1;", 1, 0);
        fault("ridesridesrides 1;", 1, 0);
        fault("day \t1;", 1, 4);
        fault("day 1\u00e9;", 1, 5);
        fault("day 1\u0000", 1, 5);
        fault("lay 1 at 2;", 1, 6);
        fault("lay 1 to day;", 1, 9);
        fault("plate 1 to 2;", 1, 8);
        fault("rides", 1, 5);
        fault("rides ;", 1, 6);
        fault("rides 1 2;", 1, 8);
        fault("rides (1;", 1, 8);
        fault("rides 1+;", 1, 8);
        fault("rides 1=1;", 1, 7);
        fault("rides if 1=<1 then 1 else 1 end;", 1, 11);
        fault("rides if 1< =1 then 1 else 1 end;", 1, 12);
        fault("rides if (1=1) then 1 else 1 end;", 1, 11);
        fault("rides if 1=1 then 1 end;", 1, 20);
        fault("rides if 1=1 then 1 else 2;", 1, 26);
        fault("rides not 1;", 1, 6);
        fault("rides 1 old;", 1, 8);
        fault("rides foo;", 1, 6);
        fault("rides then;", 1, 6);
        fault("to 1;", 1, 0);
        fault("at 1;", 1, 0);
        fault("diff;", 1, 0);
        fault("rides 5 99999;", 1, 8);
        fault("rides 9999;", 0, -1);
        fault("rides 10000;", 2, 6);
        fault("rides 00000000000000009999;", 0, -1);
        fault("rides 99999999999999999999999;", 2, 6);
        fault("costs 1+10000;", 2, 8);
        fault("lay 6 to 6;", 0, -1);
        fault("lay 7 to 7;", 2, 4);
        fault("lay 6 to 7;", 2, 9);
        fault("plate 99 at 6;", 0, -1);
        fault("plate 100 at 6;", 2, 6);
        fault("plate 99 at 7;", 2, 12);
        fault("turn 9;", 0, -1);
        fault("turn 10;", 2, 5);
        fault("grant 1;grant 99;", 0, -1);
        fault("grant 0;", 2, 6);
        fault("grant 100;", 2, 6);
        fault("day 1;day 60;", 0, -1);
        fault("day 0;", 2, 4);
        fault("day 61;", 2, 4);
        fault("rides ((((((((1))))))));", 0, -1);
        fault("rides (((((((((1)))))))));", 3, 14);
        fault("rides --------1;", 0, -1);
        fault("rides ---------1;", 3, 14);
        fault("rides -fare sign(-fare sign(1))+--------1;", 0, -1);
        fault("rides -fare sign(-fare sign(-1))+--------1;", 3, 28);
        fault("rides if not not not not not not not 1=1 then 1 else 1 end;", 0, -1);
        fault("rides if not not not not not not not not 1=1 then 1 else 1 end;", 3, 37);
        fault("rides if not not not not not not not -1=1 then 1 else 1 end;", 3, 37);
        fault("rides if not not not not not not not 1=-1 then 1 else 1 end;", 3, 39);
        fault("rides if 1=1 then -------1 else -------1 end;", 0, -1);
        fault("rides if 1=1 then --------1 else 1 end;", 3, 25);
        fault("rides if 1=1 then 1 else 1 end---------2;", 0, -1);
        fault("rides if 1=1 then 1 else 1 end----------2;", 3, 39);
        fault("rides 1;rides", 4, 8);
        fault("costs 1;day 1;costs 2;", 4, 14);
        fault("rides 1;costs 1;", 0, -1);
        fault("rides old;", 5, 6);
        fault("rides 1+new;", 5, 8);
        fault("rides beside;", 5, 6);
        fault("rides diff+low+high+day+which+fund+open;", 0, -1);
        fault("costs diff;", 5, 6);
        fault("costs low;", 5, 6);
        fault("costs high;", 5, 6);
        fault("costs old+new+beside+day+which+fund+open;", 0, -1);
        StringBuilder many = new StringBuilder("rides 1;");
        for (int i = 1; i < 24; i++) {
            many.append("day 1;");
        }
        fault(many.toString(), 0, -1);
        fault(many + "day 1;", 6, many.length());
        fault(many + " costs 1;", 6, many.length() + 1);
        fault(many + "rides 1;", 4, many.length());
        fault(many + "1;", 1, many.length());
    }

    private static void fault(String text, int number, int place) {
        FareNumbers x = new FareNumbers();
        due("text() of " + text, text(x, text), number == 0 ? 0 : -1);
        due("fault(0) of " + text, x.fault(0), number);
        due("fault(1) of " + text, x.fault(1), place);
    }

    private static void hands() {
        promise = 7;
        FareNumbers x = net("01");
        due("by(0)", x.by(0), false);
        due("by(-1)", x.by(-1), true);
        text(x, "rides 3;");
        text(x, "costs 7;");
        due("by(2)", x.by(2), false);
        due("by(-2)", x.by(-2), false);
        due("by(0)", x.by(0), true);
        due("about(2)", x.about(2), 0);
        due("of(0, 4)", x.of(0, 4), 3);
        due("costs(0, 1)", x.costs(0, 1), 1);
        due("by(1)", x.by(1), true);
        due("of(0, 4)", x.of(0, 4), 5);
        due("costs(0, 1)", x.costs(0, 1), 7);
        due("by(-1)", x.by(-1), true);
        due("costs(0, 1)", x.costs(0, 1), 1);
        promise = 8;
        x.by(1);
        due("plate(0, 0)", x.plate(0, 0), -1);
        due("plate(0, 100)", x.plate(0, 100), -1);
        due("plate(0, -1)", x.plate(0, -1), -1);
        due("plate(7, 1)", x.plate(7, 1), -1);
        due("plate(-1, 1)", x.plate(-1, 1), -1);
        for (int i = 1; i <= 7; i++) {
            due("plate", x.plate(6, i), 7);
        }
        due("is(2)", x.is(2), 1);
        due("plate(6, 8)", x.plate(6, 8), -1);
        due("about(3)", x.about(3), 7);
        x.grant(6);
        due("plate(6, 99)", x.plate(6, 99), 7);
        due("is(2)", x.is(2), 0);
        due("ofHalt(6, 0)", x.ofHalt(6, 0), 99);
        promise = 9;
        due("turn(0)", x.turn(0), true);
        due("of(0, 3)", x.of(0, 3), 0);
        due("turn(0)", x.turn(0), true);
        due("of(0, 3)", x.of(0, 3), 1);
        due("turn(1)", x.turn(1), false);
        due("turn(-1)", x.turn(-1), false);
        promise = 10;
        due("grant(0)", x.grant(0), false);
        due("grant(100)", x.grant(100), false);
        due("grant(1)", x.grant(1), true);
        due("is(2)", x.is(2), 1);
        x = net("01");
        signs(x, 99);
        text(x, "rides 10;");
        x.by(0);
        for (int i = 0; i < 16; i++) {
            due("day(60)", x.day(60), 99 * 60);
        }
        due("is(2)", x.is(2), 95089);
        for (int i = 0; i < 49; i++) {
            due("grant(99)", x.grant(99), true);
        }
        due("is(2)", x.is(2), 99940);
        due("grant(60)", x.grant(60), false);
        due("grant(59)", x.grant(59), true);
        due("grant(1)", x.grant(1), false);
        due("day(1)", x.day(1), 99);
        due("is(2)", x.is(2), 99999);
        due("book(24, 3)", x.book(24, 3), 99);
    }

    private static void days() {
        promise = 11;
        FareNumbers x = net("01 12");
        signs(x, 4, 0, 7);
        due("day(0)", x.day(0), -1);
        due("day(61)", x.day(61), -1);
        due("day(-1)", x.day(-1), -1);
        // draws 439 (9: not ridden) and 24801 (1: ridden)
        due("day(1)", x.day(1), 7);
        due("is(1)", x.is(1), (24801 * 691 + 569) % 31013);
        due("is(0)", x.is(0), 1);
        due("book(3, 0)", x.book(3, 0), -2);
        due("book(2, 0)", x.book(2, 0), 0);
        due("book(2, 2)", x.book(2, 2), 1);
        x.turn(0);
        x.turn(1);
        due("day(60)", x.day(60), 0);
        due("is(1)", x.is(1), (24801 * 691 + 569) % 31013);
        due("about(3)", x.about(3), 30);
        for (int i = 0; i < 165; i++) {
            x.day(60);
        }
        due("is(0)", x.is(0), 9961);
        due("day(39)", x.day(39), -1);
        due("is(0)", x.is(0), 9961);
        due("day(38)", x.day(38), 0);
        due("is(0)", x.is(0), 9999);
        due("day(1)", x.day(1), -1);
        promise = 20;
        due("foretold(5)", x.foretold(5), x.is(2));
        x = net("01");
        signs(x, 9);
        text(x, "rides 10;");
        x.by(0);
        for (int i = 0; i < 166; i++) {
            x.day(60);
        }
        x.day(37);
        due("is(0)", x.is(0), 9997);
        due("foretold(1)", x.foretold(1), x.is(2) + 9);
        due("foretold(2)", x.foretold(2), x.is(2) + 18);
        due("foretold(3)", x.foretold(3), x.is(2) + 18);
        due("foretold(60)", x.foretold(60), x.is(2) + 18);
        x.day(2);
        due("foretold(1)", x.foretold(1), x.is(2));
        // the law sees the FUND of each LINE's own turn, and the DAY that is
        x = net("01 12");
        signs(x, 9, 0, 3);
        text(x, "rides if fund>100 then 0 else if day=0 then 10 else 0 end end;");
        x.by(0);
        x.grant(53);
        due("is(2)", x.is(2), 101);
        promise = 11;
        due("day(1)", x.day(1), 0);
        x.undo();
        x.undo();
        x.grant(52);
        due("day(2)", x.day(2), 9);
        due("is(2)", x.is(2), 109);
        due("book(2, 0)", x.book(2, 0), 0);
    }

    private static void played() {
        promise = 12;
        FareNumbers x = new FareNumbers();
        due("played(0)", x.played(0), -2);
        text(x, "rides 10;lay 0 to 1;plate 9 at 0;lay 1 to 0;grant 9;");
        due("played(-1)", x.played(-1), -2);
        due("played(1)", x.played(1), -2);
        due("played(0)", x.played(0), 3);
        due("about(0)", x.about(0), 1);
        due("ofHalt(0, 0)", x.ofHalt(0, 0), 9);
        due("is(2)", x.is(2), 49);
        due("about(2)", x.about(2), -1);
        due("about(3)", x.about(3), 1);
        text(x, "day 2;turn 0;turn 9;day 1;");
        due("played(1)", x.played(1), 2);
        due("is(0)", x.is(0), 2);
        due("about(3)", x.about(3), 4);
        text(x, "costs 1;grant 2;");
        due("played(2)", x.played(2), -1);
        text(x, "day 60;day 60;day 60;day 60;day 60;day 60;day 60;day 60;day 60;day 60;day 37;");
        for (int i = 0; i < 15; i++) {
            due("played(3)", x.played(3), -1);
        }
        due("is(0)", x.is(0), 9557);
        for (int i = 0; i < 7; i++) {
            x.day(60);
        }
        due("is(0)", x.is(0), 9977);
        due("played(3)", x.played(3), 0);
        due("is(0)", x.is(0), 9999);
        due("played(3)", x.played(3), 0);
        promise = 13;
        for (int seed = 0; seed < 9; seed++) {
            due("years(" + seed + ", 40)", x.years(seed, 40), 9999);
            due("is(0)", x.is(0), 9999);
        }
    }

    private static void years() {
        promise = 13;
        FareNumbers x = new FareNumbers();
        due("years(-1, 1)", x.years(-1, 1), -1);
        due("years(10000, 1)", x.years(10000, 1), -1);
        due("years(0, 0)", x.years(0, 0), -1);
        due("years(0, 41)", x.years(0, 41), -1);
        due("about(3)", x.about(3), 0);
        for (int seed = 0; seed <= 9999; seed += 303) {
            x = net("01 12 23 34");
            text(x, "rides 0;");
            x.by(0);
            int[] numbers = new int[7];
            int fund = 50;
            int day = 0;
            int open = 15;
            int drawn = seed * 2 + 439;
            for (int i = 0; i < 40; i++) {
                int was = drawn;
                drawn = (drawn * 691 + 569) % 31013;
                if (was % 6 == 0 && numbers[was / 6 % 7] != was % 20 && fund >= 1) {
                    numbers[was / 6 % 7] = was % 20;
                    fund--;
                } else if (was % 6 == 1 && was % 4 == 3 && was / 6 % 10 < 4) {
                    open ^= 1 << was / 6 % 10;
                } else if (was % 6 == 2) {
                    fund += 1 + was / 6 % 9;
                } else if (was % 6 > 2) {
                    day++;
                    for (int line = 0; line < Integer.bitCount(open); line++) {
                        drawn = (drawn * 691 + 569) % 31013;
                    }
                }
            }
            due("years(" + seed + ", 40)", x.years(seed, 40), day);
            due("is(1)", x.is(1), drawn);
            due("is(2)", x.is(2), fund);
            due("is(3)", x.is(3), open);
            for (int halt = 0; halt < 7; halt++) {
                due("ofHalt", x.ofHalt(halt, 0), numbers[halt]);
            }
            due("about(3)", x.about(3), 1);
            due("undo()", x.undo(), 0);
            due("is(1)", x.is(1), 439);
            due("is(3)", x.is(3), 15);
        }
    }

    private static void undo() {
        promise = 14;
        FareNumbers x = net("01");
        due("undo()", x.undo(), -1);
        x.plate(0, 9);
        x.turn(0);
        x.lay(1, 2);
        x.turn(1);
        x.grant(5);
        x.day(2);
        due("is(3)", x.is(3), 0);
        due("undo()", x.undo(), 5);
        due("undo()", x.undo(), 4);
        due("is(0)", x.is(0), 0);
        due("undo()", x.undo(), 3);
        due("is(2)", x.is(2), 49);
        due("undo()", x.undo(), 2);
        due("is(3)", x.is(3), 2);
        due("undo()", x.undo(), 1);
        due("is(3)", x.is(3), 3);
        due("book(-1, 0)", x.book(-1, 0), 1);
        due("undo()", x.undo(), 0);
        due("ofHalt(0, 0)", x.ofHalt(0, 0), 0);
        due("is(2)", x.is(2), 50);
        due("undo()", x.undo(), -1);
        due("about(0)", x.about(0), 2);
        for (int i = 1; i <= 31; i++) {
            x.grant(1);
        }
        due("about(3)", x.about(3), 30);
        for (int i = 29; i >= 0; i--) {
            due("undo()", x.undo(), i);
        }
        due("undo()", x.undo(), -1);
        due("is(2)", x.is(2), 51);
    }

    private static void told() {
        FareNumbers x = net("31 12");
        signs(x, 0, 5, 5, 3);
        x.turn(1);
        promise = 15;
        int[] first = {3, 1, 2, 1, 5};
        int[] second = {1, 2, 0, 0, 5};
        for (int what = 0; what < 5; what++) {
            due("of(0, " + what + ")", x.of(0, what), first[what]);
            due("of(1, " + what + ")", x.of(1, what), second[what]);
        }
        due("of(0, 5)", x.of(0, 5), -1);
        due("of(0, -1)", x.of(0, -1), -1);
        due("of(2, 0)", x.of(2, 0), -1);
        due("of(-1, 0)", x.of(-1, 0), -1);
        laws();
        promise = 16;
        due("ofHalt(1, 0)", x.ofHalt(1, 0), 5);
        due("ofHalt(1, 1)", x.ofHalt(1, 1), 8);
        due("ofHalt(3, 1)", x.ofHalt(3, 1), 2);
        due("ofHalt(2, 1)", x.ofHalt(2, 1), 0);
        due("ofHalt(2, 2)", x.ofHalt(2, 2), -1);
        due("ofHalt(2, -1)", x.ofHalt(2, -1), -1);
        due("ofHalt(7, 0)", x.ofHalt(7, 0), -1);
        due("ofHalt(-1, 0)", x.ofHalt(-1, 0), -1);
        promise = 17;
        due("costs(0, 0)", x.costs(0, 0), 1);
        due("costs(0, 99)", x.costs(0, 99), 1);
        due("costs(0, -1)", x.costs(0, -1), -100);
        due("costs(0, 100)", x.costs(0, 100), -100);
        due("costs(7, 0)", x.costs(7, 0), -100);
        due("costs(-1, 0)", x.costs(-1, 0), -100);
        promise = 18;
        due("is(2)", x.is(2), 47);
        due("is(3)", x.is(3), 1);
        due("is(4)", x.is(4), 2);
        due("is(5)", x.is(5), -2);
        due("is(-1)", x.is(-1), -2);
        promise = 19;
        due("book(-1, 9)", x.book(-1, 9), 4);
        int[][] book = {{0, 0, 1, 5}, {0, 0, 2, 5}, {0, 0, 3, 3}, {0, 1, 1, 0}};
        for (int i = 0; i < 4; i++) {
            for (int what = 0; what < 4; what++) {
                due("book(" + i + ", " + what + ")", x.book(i, what), book[i][what]);
            }
        }
        due("book(4, 0)", x.book(4, 0), -2);
        due("book(-2, 0)", x.book(-2, 0), -2);
        due("book(0, 4)", x.book(0, 4), -2);
        due("book(0, -1)", x.book(0, -1), -2);
        promise = 45;
        due("ledger(0)", x.ledger(0), 3);
        due("ledger(1)", x.ledger(1), 1);
        due("ledger(2)", x.ledger(2), 0);
        due("ledger(3)", x.ledger(3), -2);
        due("ledger(-1)", x.ledger(-1), -2);
        for (int i = 0; i < 24; i++) {
            x.turn(0);
        }
        due("ledger(0)", x.ledger(0), 0);
        due("ledger(1)", x.ledger(1), 25);
        due("book(-1, 0)", x.book(-1, 0), 25);
        due("book(0, 2)", x.book(0, 2), 1);
        due("book(1, 3)", x.book(1, 3), 0);
        due("book(24, 3)", x.book(24, 3), 1);
    }

    private static void laws() {
        rides("1+2*3", 7);
        rides("9-3-2", 4);
        rides("8/2/2", 2);
        rides("9-7/0", 9);
        rides("10+(0-7)/2", 7);
        rides("-7/2+10", 7);
        rides("10+7/-2", 7);
        rides("3-9", 0);
        rides("99", 10);
        rides("9999*9999-9999*100", 10);
        rides("9999*9999-9999*100-98", 2);
        rides("9999*9999+9999-9999*100-97", 3);
        rides("9999*9999/9999-93", 7);
        rides("7-9999*9999+9999*100+97", 4);
        rides("-9999*9999*9999+9999*100+103", 3);
        rides("0-9999*9999-9999+9999*100+104", 4);
        rides("fare 0", 3);
        rides("fare 1", 4);
        rides("fare 2", 0);
        rides("fare -1+1", 1);
        rides("sign 1", 2);
        rides("sign 7+sign -1", 0);
        rides("sign(1+1)", 6);
        rides("low*2", 4);
        rides("high", 5);
        rides("diff", 3);
        rides("which+1", 1);
        rides("open", 1);
        rides("fund-40", 7);
        rides("day", 0);
        rides("if 1<1 then 1 else 2 end", 2);
        rides("if 1<=1 then 1 else 2 end", 1);
        rides("if 2>1 then 1 else 2 end", 1);
        rides("if 1>=2 then 1 else 2 end", 2);
        rides("if 1=1 then 1 else 2 end", 1);
        rides("if 1#1 then 1 else 2 end", 2);
        rides("if not 1=1 then 1 else 2 end", 2);
        rides("if 1=1 or 1=2 and 1=2 then 1 else 2 end", 1);
        rides("if not 1=1 or 1=1 then 1 else 2 end", 1);
        rides("if 1=2 or 1=1 and 1=2 then 1 else 2 end", 2);
        String[] asks = {"1=2", "1=1"};
        for (int a = 0; a < 2; a++) {
            for (int b = 0; b < 2; b++) {
                for (int c = 0; c < 2; c++) {
                    String tail = " then 8 else 3 end";
                    boolean isA = a == 1;
                    boolean isB = b == 1;
                    boolean isC = c == 1;
                    rides("if " + asks[a] + " and " + asks[b] + " and " + asks[c] + tail, isA && isB && isC ? 8 : 3);
                    rides("if " + asks[a] + " or " + asks[b] + " or " + asks[c] + tail, isA || isB || isC ? 8 : 3);
                    rides("if " + asks[a] + " or " + asks[b] + " and " + asks[c] + tail, isA || isB && isC ? 8 : 3);
                    rides("if " + asks[a] + " and " + asks[b] + " or " + asks[c] + tail, isA && isB || isC ? 8 : 3);
                    rides("if not " + asks[a] + " and not " + asks[b] + tail, !isA && !isB ? 8 : 3);
                }
            }
        }
        int[] differs = {-1, 0, 1};
        for (int differ : differs) {
            String both = (3 + differ) + " ";
            rides("if " + both + "< 3 then 8 else 2 end", differ < 0 ? 8 : 2);
            rides("if " + both + "<= 3 then 8 else 2 end", differ <= 0 ? 8 : 2);
            rides("if " + both + "> 3 then 8 else 2 end", differ > 0 ? 8 : 2);
            rides("if " + both + ">= 3 then 8 else 2 end", differ >= 0 ? 8 : 2);
            rides("if " + both + "= 3 then 8 else 2 end", differ == 0 ? 8 : 2);
            rides("if " + both + "# 3 then 8 else 2 end", differ != 0 ? 8 : 2);
        }
        rides("if 1=2 then 1 else if 1=1 then 3 else 4 end end+if 1=1 then 2 else 9 end", 5);
        FareNumbers x = net("01 12");
        signs(x, 4, 4, 9);
        x.turn(1);
        text(x, "costs old*10+new+beside*3+which+open+day;");
        x.by(0);
        promise = 17;
        due("costs(1, 20)", x.costs(1, 20), 65);
        due("costs(1, 4)", x.costs(1, 4), 49);
        due("costs(2, 5)", x.costs(2, 5), 98);
        due("costs(2, 9)", x.costs(2, 9), 99);
    }

    /** rides of LINE 0 by such a SUM: HALTS 0, 1, 2 have 5, 2, 6, and LINE 1 is not OPEN. */
    private static void rides(String sum, int want) {
        FareNumbers x = net("01 12");
        signs(x, 5, 2, 6);
        x.turn(1);
        due("text()", text(x, "rides " + sum + ";"), 0);
        x.by(0);
        due("rides " + sum, x.of(0, 4), want);
    }

    private static void fares() {
        promise = 20;
        FareNumbers x = net("01 12");
        signs(x, 4, 0, 7);
        due("foretold(0)", x.foretold(0), -1);
        due("foretold(61)", x.foretold(61), -1);
        int foretold = x.foretold(60);
        due("is(0)", x.is(0), 0);
        due("is(1)", x.is(1), 439);
        due("is(2)", x.is(2), 48);
        due("book(-1, 0)", x.book(-1, 0), 2);
        due("about(3)", x.about(3), 2);
        due("foretold(60)", foretold, 48 + x.day(60));
        promise = 21;
        x = net("01 12 23");
        due("fair()", x.fair(), false);
        signs(x, 0, 1, 3, 6);
        due("fair()", x.fair(), true);
        x.plate(3, 5);
        due("fair()", x.fair(), false);
        x.turn(1);
        due("fair()", x.fair(), true);
        x.plate(1, 0);
        due("fair()", x.fair(), false);
        x.turn(0);
        x.turn(2);
        due("fair()", x.fair(), true);
        promise = 22;
        due("left()", x.left(), -1);
        x.turn(0);
        due("left()", x.left(), 1);
        x.turn(2);
        due("left()", x.left(), 1);
        x.plate(1, 1);
        due("left()", x.left(), 0);
        x.turn(1);
        due("left()", x.left(), 4);
        x.plate(1, 9);
        due("left()", x.left(), 5);
        promise = 23;
        x = net("01 12 23 34");
        signs(x, 0, 5, 9, 5, 10);
        due("twin(false)", x.twin(false), 0);
        due("twin(true)", x.twin(true), 3);
        x.turn(0);
        due("twin(false)", x.twin(false), 1);
        due("twin(true)", x.twin(true), 2);
        x.turn(2);
        due("twin(false)", x.twin(false), -1);
        due("twin(true)", x.twin(true), -1);
        promise = 43;
        x = net("01 12 23");
        due("dearest()", x.dearest(), 0);
        signs(x, 0, 1, 3, 1);
        due("dearest()", x.dearest(), 1);
        x.turn(1);
        due("dearest()", x.dearest(), 2);
        x.turn(2);
        due("dearest()", x.dearest(), 0);
        x.turn(0);
        due("dearest()", x.dearest(), -1);
        promise = 44;
        due("highest()", x.highest(), 2);
        x.plate(6, 3);
        due("highest()", x.highest(), 2);
        x.plate(6, 4);
        due("highest()", x.highest(), 6);
        due("highest()", new FareNumbers().highest(), 0);
    }

    private static void row(String call, FareNumbers x, int... wants) {
        for (int i = 0; i < wants.length; i++) {
            int got = 0;
            switch (call) {
                case "whole": got = x.whole(i); break;
                case "span": got = x.span(i); break;
                case "band": got = x.band(i); break;
                case "alike": got = x.alike(i); break;
                case "unlike": got = x.unlike(i); break;
                default: got = x.apart(call.charAt(0) - '0', call.charAt(1) - '0', i);
            }
            due(call + "(" + i + ")", got, wants[i]);
        }
    }

    private static void numbers() {
        promise = 24;
        FareNumbers x = net("01 12 02");
        signs(x, 9, 9, 9, 8);
        row("whole", x, 0, 1, 3, 0, 0, 0, 0, -1);
        due("whole(-1)", x.whole(-1), -1);
        promise = 25;
        due("wholes()", x.wholes(), 12);
        x.turn(2);
        due("wholes()", x.wholes(), 4);
        row("whole", x, 0, 2, 1, 0);
        x.turn(0);
        x.turn(1);
        // without OPEN LINES all 0, though their NUMBERS are others
        row("whole", x, 0, 0, 0, 0, 0, 0, 0);
        due("wholes()", x.wholes(), 1);
        x = net("01 02 03 12 13 23");
        due("wholes()", x.wholes(), 48);
        row("whole", x, 0, 1, 4, 6, 0, 0, 0);
        promise = 26;
        due("span(-1)", x.span(-1), 6);
        x = net("01 02 03 04 12 13 14 23 24 34");
        x.plate(6, 70);
        promise = 24;
        row("whole", x, -1, -1, -1, -1, -1, -1, -1);
        promise = 25;
        due("wholes()", x.wholes(), 0);
        promise = 26;
        due("span(-1)", x.span(-1), 11);
        row("span", x, 0, 1, 4, 9, 11, 0, 0, -1);
        due("span(-2)", x.span(-2), -1);
        x = net("01 23 45");
        promise = 25;
        due("wholes()", x.wholes(), 0);
        promise = 26;
        due("span(-1)", x.span(-1), 5);
        row("span", x, 0, 2, 1, 5, 3, 4, 0);
        x = new FareNumbers();
        x.plate(3, 4);
        due("span(-1)", x.span(-1), 0);
        row("span", x, 0, 0, 0, 0);
        x = net("01 12 23 34 40 05 16");
        long seven = x.wholes();
        due("whole(0)", x.whole(0) < 0, seven == 0);
        due("span(-1) is 7", x.span(-1) == 7, seven > 0);
    }

    private static void apart() {
        promise = 27;
        FareNumbers x = net("01 12 23 34 40");
        x.plate(6, 33);
        due("apart(2, 1, -1)", x.apart(2, 1, -1), 4);
        row("21", x, 0, 2, 4, 1, 3, 0, 0, -1);
        due("apart(1, 0, -1)", x.apart(1, 0, -1), 2);
        due("apart(3, 0, -1)", x.apart(3, 0, -1), 6);
        row("30", x, 0, 3, 0, 3, 6);
        due("apart(0, 3, -1)", x.apart(0, 3, -1), 6);
        due("apart(3, 3, -1)", x.apart(3, 3, -1), 12);
        due("apart(4, 0, -1)", x.apart(4, 0, -1), -1);
        due("apart(0, 4, -1)", x.apart(0, 4, -1), -1);
        due("apart(-1, 0, -1)", x.apart(-1, 0, -1), -1);
        due("apart(0, -1, 0)", x.apart(0, -1, 0), -1);
        due("apart(0, 0, 7)", x.apart(0, 0, 7), -1);
        due("apart(0, 0, -2)", x.apart(0, 0, -2), -1);
        x = net("01 12");
        due("apart(0, 1, -1)", x.apart(0, 1, -1), 1);
        row("01", x, 0, 0, 1);
        // HALTS beside one another are not over two LINES as well
        x = net("01 12 02");
        due("apart(1, 3, -1)", x.apart(1, 3, -1), 2);
        due("apart(0, 3, -1)", x.apart(0, 3, -1), 0);
        x.turn(2);
        due("apart(1, 3, -1)", x.apart(1, 3, -1), 3);
        row("13", x, 0, 1, 3);
        x = net("01 02 03 04 05 06");
        due("apart(3, 3, -1)", x.apart(3, 3, -1), 18);
        due("apart(1, 1, 6)", x.apart(1, 1, 6), 6);
    }

    private static void weights() {
        FareNumbers x = net("03 04 05 13 14 15 23 24 25");
        promise = 28;
        due("alike(-1)", x.alike(-1), 15);
        row("alike", x, 1, 5, 9, 6, 7, 2, 8, 3, 4, -1, -1);
        due("alike(-2)", x.alike(-2), -1);
        promise = 29;
        due("alikes()", x.alikes(), 72);
        x.turn(8);
        due("alikes()", x.alikes(), 8);
        promise = 28;
        due("alike(8)", x.alike(8), -1);
        due("alike(-1)", x.alike(-1), 12);
        x.turn(0);
        due("alike(-1)", x.alike(-1), -1);
        row("alike", x, -1, -1, -1, -1, -1, -1, -1, -1, -1);
        x = net("45 46");
        x.turn(0);
        due("alike(-1)", x.alike(-1), 1);
        row("alike", x, -1, 1);
        promise = 29;
        due("alikes()", x.alikes(), 1);
        x.turn(1);
        due("alikes()", x.alikes(), 1);
        promise = 28;
        due("alike(-1)", x.alike(-1), 0);
        row("alike", x, -1, -1);
        x = net("01 02 03 04 12 13 14 23 24 34");
        promise = 29;
        due("alikes()", x.alikes(), 0);
        promise = 30;
        row("unlike", x, 1, 2, 3, 4, 5, 6, 7, 8, 9, 10);
        x = net("01 12 23");
        row("unlike", x, 1, 3, 2, -1, -1);
        due("unlike(-1)", x.unlike(-1), -1);
        due("unlike(10)", x.unlike(10), -1);
        x.turn(2);
        row("unlike", x, 1, 2, -1);
        x.turn(1);
        row("unlike", x, -1, -1, -1);
        x = net("01 12 34 45");
        row("unlike", x, -1, -1, -1, -1);
        x = net("01 02 03 12 13 23 45");
        row("unlike", x, -1, -1, -1, -1, -1, -1, -1);
    }

    private static void places() {
        promise = 31;
        FareNumbers x = net("60 61 62 63");
        x.plate(5, 9);
        due("band(-1)", x.band(-1), 2);
        row("band", x, 0, 1, 3, 4, 0, 0, 2, -1);
        due("band(-2)", x.band(-2), -1);
        promise = 32;
        due("total()", x.total(), 6);
        x = net("01 12 23 34 45 56");
        promise = 31;
        due("band(-1)", x.band(-1), 1);
        row("band", x, 0, 1, 2, 3, 4, 5, 6);
        promise = 32;
        due("total()", x.total(), 6);
        x.lay(0, 6);
        due("total()", x.total(), 12);
        promise = 31;
        due("band(-1)", x.band(-1), 2);
        row("band", x, 0, 1, 3, 5, 6, 4, 2);
        x = net("01 02 03 12 13 23");
        due("band(-1)", x.band(-1), 3);
        promise = 32;
        due("total()", x.total(), 10);
        x = net("01");
        x.turn(0);
        due("total()", x.total(), 0);
        promise = 31;
        due("band(-1)", x.band(-1), 0);
        due("band(1)", x.band(1), 0);
    }

    private static void mend() {
        promise = 33;
        FareNumbers x = net("01 12 02");
        due("mend()", x.mend(), 3);
        signs(x, 0, 1, 3);
        due("mend()", x.mend(), 0);
        x.plate(2, 2);
        due("mend()", x.mend(), 1);
        x.turn(1);
        due("mend()", x.mend(), 0);
        x = net("01");
        signs(x, 99, 99);
        due("mend()", x.mend(), 1);
        x.turn(0);
        due("mend()", x.mend(), 0);
        // all FARES of a star must be unlike: its middle alone is not enough
        x = net("60 61 62");
        due("mend()", x.mend(), 7);
        // FARES above 63: of 99 to 29 and 29 the one must change, by 0 to 20 to a FARE of 79 to 99
        x = net("01 02");
        signs(x, 99, 29, 29);
        due("mend()", x.mend(), 2);
        // 01 and 14 stay alike, whatever 1 has alone
        x = net("01 14 24 34");
        signs(x, 29, 99, 99, 9, 29);
        due("mend()", x.mend(), 3);
        x.plate(0, 99);
        due("mend()", x.mend(), 2);
        x = net("01 23");
        due("mend()", x.mend(), 5);
        signs(x, 0, 0, 50, 71);
        due("mend()", x.mend(), 1);
    }

    private static void shape() {
        promise = 34;
        due("names()", net("01 12 23 34 45 56 60").names(), 14);
        due("names()", net("01 12 20").names(), 144);
        due("names()", net("01 02 03 04 05 06").names(), 720);
        due("names()", net("01 23 45").names(), 48);
        FareNumbers x = net("01 23 45");
        x.turn(0);
        due("names()", x.names(), 48);
        x.turn(1);
        x.turn(2);
        due("names()", x.names(), 5040);
        promise = 35;
        due("parts()", x.parts(), 7);
        due("parts()", net("01 12 20").parts(), 5);
        due("parts()", net("65 54 43 32 21 10").parts(), 1);
        x = net("01 12 20 23");
        due("parts()", x.parts(), 4);
        x.turn(0);
        due("parts()", x.parts(), 4);
        x.turn(3);
        due("parts()", x.parts(), 5);
        promise = 36;
        x = net("01 12 20 23 45");
        due("cuts()", x.cuts(), 24);
        x.turn(1);
        due("cuts()", x.cuts(), 29);
        due("cuts()", new FareNumbers().cuts(), 0);
    }

    private static void game() {
        promise = 37;
        FareNumbers x = net("01 12");
        due("game(-1)", x.game(-1), -1);
        due("game(128)", x.game(128), -1);
        due("game(120)", x.game(120), 1);
        due("game(127)", x.game(127), 0);
        due("game(3)", x.game(3), 0);
        due("game(67)", x.game(67), 1);
        due("game(0)", x.game(0), 1);
        promise = 38;
        due("mark(-1)", x.mark(-1), -1);
        due("mark(128)", x.mark(128), -1);
        due("mark(120)", x.mark(120), 1);
        due("mark(0)", x.mark(0), 1);
        due("mark(127)", x.mark(127), -1);
        due("mark(67)", x.mark(67), 3);
        x.turn(0);
        due("mark(120)", x.mark(120), -1);
        promise = 37;
        due("game(120)", x.game(120), 0);
    }

    private static void rides() {
        promise = 39;
        FareNumbers x = net("01 12 23 03 34");
        signs(x, 0, 2, 4, 6, 6);
        due("ride(0, 3)", x.ride(0, 3), 6);
        due("ride(3, 3)", x.ride(3, 3), 0);
        due("ride(0, 4)", x.ride(0, 4), 6);
        due("ride(0, 5)", x.ride(0, 5), -1);
        due("ride(-1, 0)", x.ride(-1, 0), -1);
        due("ride(0, 7)", x.ride(0, 7), -1);
        promise = 40;
        int[] way = {0, 3, 4, -2, -2, -2, -2, -2};
        for (int i = 0; i < way.length; i++) {
            due("change(0, 4, " + i + ")", x.change(0, 4, i), way[i]);
        }
        due("change(0, 4, -1)", x.change(0, 4, -1), -2);
        due("change(0, 5, 0)", x.change(0, 5, 0), -2);
        due("change(5, 5, 0)", x.change(5, 5, 0), 5);
        due("change(5, 5, 1)", x.change(5, 5, 1), -2);
        due("change(7, 0, 0)", x.change(7, 0, 0), -2);
        due("change(0, -1, 0)", x.change(0, -1, 0), -2);
        due("change(0, 7, 0)", x.change(0, 7, 0), -2);
        due("change(-1, 0, 0)", x.change(-1, 0, 0), -2);
        due("ride(7, 0)", x.ride(7, 0), -1);
        due("ride(0, -1)", x.ride(0, -1), -1);
        x.turn(3);
        int[] longer = {0, 1, 2, 3, 4, -2};
        for (int i = 0; i < longer.length; i++) {
            due("change(0, 4, " + i + ")", x.change(0, 4, i), longer[i]);
        }
        due("change(4, 0, 1)", x.change(4, 0, 1), 3);
        // of like ways the lowest second HALT
        x = net("02 01 13 23");
        due("change(0, 3, 1)", x.change(0, 3, 1), 1);
        x.plate(1, 1);
        due("change(0, 3, 1)", x.change(0, 3, 1), 2);
        promise = 39;
        due("ride(0, 1)", x.ride(0, 1), 1);
        due("ride(0, 3)", x.ride(0, 3), 0);
    }

    private static void whose() {
        promise = 41;
        FareNumbers x = net("01 12");
        due("said(2, 5)", x.said(2, 5), -2);
        due("said(-2, 5)", x.said(-2, 5), -2);
        due("said(0, 11)", x.said(0, 11), -2);
        due("said(0, -1)", x.said(0, -1), -2);
        due("about(4)", x.about(4), 0);
        promise = 42;
        due("whose()", x.whose(), 0);
        text(x, "rides diff;");
        text(x, "costs 9;");
        text(x, "rides 7-which;");
        due("whose()", x.whose(), 7);
        signs(x, 0, 5);
        x.said(1, 5);
        due("whose()", x.whose(), 3);
        x.turn(0);
        x.said(0, 5);
        due("whose()", x.whose(), 3);
        x.said(0, 7);
        due("whose()", x.whose(), 0);
        promise = 41;
        due("said(-1, 0)", x.said(-1, 0), 0);
        promise = 42;
        due("whose()", x.whose(), 7);
        x.said(0, 7);
        due("whose()", x.whose(), 4);
        x.by(0);
        due("whose()", x.whose(), 4);
        promise = 41;
        for (int i = 2; i <= 8; i++) {
            due("said", x.said(i % 2, 10), i);
        }
        due("said(0, 0)", x.said(0, 0), -2);
        due("said(-1, 0)", x.said(-1, 0), 0);
        due("said(0, 0)", x.said(0, 0), 1);
    }

    private static void image() {
        promise = 47;
        FareNumbers x = net("01 12");
        text(x, "rides which;");
        x.said(1, 1);
        x.said(0, 0);
        x.image();
        x.said(-1, 0);
        x.said(0, 3);
        x.said(0, 3);
        due("whose()", x.whose(), 0);
        x.back();
        due("whose()", x.whose(), 1);
        due("about(4)", x.about(4), 2);
        x = new FareNumbers();
        text(x, "rides 1;");
        x.lay(0, 1);
        x.image();
        x.lay(1, 2);
        text(x, "rides 2;");
        x.back();
        x.lay(3, 4);
        text(x, "rides 3;");
        x.by(1);
        due("of(0, 4)", x.of(0, 4), 3);
        due("of(1, 0)", x.of(1, 0), 3);
        x.image();
        x.back();
        due("of(0, 4)", x.of(0, 4), 3);
        due("of(1, 1)", x.of(1, 1), 4);
        promise = 46;
        x = net("01");
        signs(x, 4);
        x.day(3);
        text(x, "rides 1;");
        x.by(0);
        x.said(0, 1);
        x.turn(0);
        due("image()", x.image(), 3);
        int fund = x.is(2);
        int drawn = x.is(1);
        int steps = x.about(3);
        int written = x.book(-1, 0);
        x.lay(2, 3);
        x.turn(0);
        x.day(9);
        x.plate(6, 6);
        x.said(0, 2);
        text(x, "rides 2;");
        x.by(1);
        text(x, "turn 10;");
        feed(x, "day");
        promise = 47;
        for (int i = 0; i < 2; i++) {
            due("back()", x.back(), 3);
            due("is(0)", x.is(0), 3);
            due("is(1)", x.is(1), drawn);
            due("is(2)", x.is(2), fund);
            due("is(3)", x.is(3), 0);
            due("book(-1, 0)", x.book(-1, 0), written);
            due("ofHalt(6, 0)", x.ofHalt(6, 0), 0);
            promise = 48;
            int[] about = {1, 1, 0, steps, 1, 3};
            for (int what = 0; what < 6; what++) {
                due("about(" + what + ")", x.about(what), about[what]);
            }
            due("about(6)", x.about(6), -2);
            due("about(-1)", x.about(-1), -2);
            promise = 47;
            due("fault(0)", x.fault(0), 2);
            due("fault(1)", x.fault(1), 5);
            due("of(0, 4)", x.of(0, 4), 1);
            due("undo()", x.undo(), steps - 1);
            due("is(3)", x.is(3), 1);
            x.played(0);
            x.years(7, 30);
        }
    }
}
