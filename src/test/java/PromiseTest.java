/** For each promise: ordinary inputs, the edges that the document names, wrong inputs; reckoned by hand. */
public final class PromiseTest {
    private static int wrong = 0;
    private static int asked = 0;
    private static int promise = 0;

    private static final long FAR = 1000000000L;
    private static final long LONG = 4000000000000000000L;
    private static final int LEAST = Integer.MIN_VALUE;
    private static final int MOST = Integer.MAX_VALUE;

    private static void due(String call, long got, long want) {
        asked++;
        if (got != want) {
            wrong++;
            System.out.println("promise " + promise + ": " + call + " answered " + got + ", due is " + want);
        }
    }

    private static void refused(String call, long got, int... codes) {
        due(call, got, codes[0]);
    }

    /** A new object to which the text was told. */
    private static JealousByCalendar told(String text) {
        JealousByCalendar x = new JealousByCalendar();
        if (!text.isEmpty()) {
            due("tell " + text, tell(x, text), text.chars().filter(c -> c == ';').count());
        }
        return x;
    }

    private static int tell(JealousByCalendar x, String text) {
        for (int i = 0; i < text.length(); i++) {
            x.feed(text.charAt(i));
        }
        return x.marriage();
    }

    private static void row(JealousByCalendar x, int... numbers) {
        x.clear();
        for (int v : numbers) {
            x.row(v);
        }
    }

    public static void main(String[] args) {
        state();
        letters();
        uses();
        takingBack();
        byHandAndLaid();
        sets();
        weekdays();
        heaps();
        rows();
        chances();
        runs();
        better();
        losses();
        counts();
        System.out.println(asked + " answers asked for, " + wrong + " not as due");
        if (wrong != 0) System.exit(1);
    }

    private static void state() {
        promise = 1;
        JealousByCalendar x = new JealousByCalendar();
        for (int what = 0; what <= 6; what++) {
            due("count(" + what + ")", x.count(what), 0);
        }
        for (int who = 0; who < 2; who++) {
            due("weekday", x.one(who, 0), 3 * who);
            due("purse", x.one(who, 1), 50);
            due("borrowed", x.one(who, 2), 0);
            due("owed", x.one(who, 3), 0);
            due("jealous", x.one(who, 4), 0);
        }
        promise = 4;
        due("one(-1, 9)", x.one(-1, 9), -1);
        due("one(2, 0)", x.one(2, 0), -1);
        due("one(0, 5)", x.one(0, 5), -2);
        due("one(1, -1)", x.one(1, -1), -2);
        due("count(11)", x.count(11), 2);
        due("count(12)", x.count(12), 2);

        promise = 6;
        due("set(0, 0, 6)", x.set(0, 0, 6), 0);
        due("set(0, 0, 2)", x.set(0, 0, 2), 6);
        due("set(1, 1, 999)", x.set(1, 1, 999), 50);
        due("set(1, 1, 0)", x.set(1, 1, 0), 999);
        due("his weekday", x.one(0, 0), 2);
        due("her weekday", x.one(1, 0), 3);
        due("his purse", x.one(0, 1), 50);
        due("set(2, 2, -1)", x.set(2, 2, -1), -1);
        due("set(0, 2, -1)", x.set(0, 2, -1), -2);
        due("set(0, 0, -1)", x.set(0, 0, -1), -4);
        due("set(0, 0, 7)", x.set(0, 0, 7), -6);
        due("set(0, 1, 1000)", x.set(0, 1, 1000), -6);
        due("his weekday stays", x.one(0, 0), 2);

        promise = 7;
        x = new JealousByCalendar();
        due("add(0, 10, 2, 84)", x.add(0, 10, 2, 84), -1);
        due("add(6, -1, 0, 0)", x.add(6, -1, 0, 0), -2);
        due("add(-1, 0, 0, 0)", x.add(-1, 0, 0, 0), -2);
        due("add(0, -1, 0, 84)", x.add(0, -1, 0, 84), -4);
        due("add(0, 10, 0, -1)", x.add(0, 10, 0, -1), -4);
        due("add(0, 10, 0, 0)", x.add(0, 10, 0, 0), -6);
        due("add(0, 0, 0, 84)", x.add(0, 0, 0, 84), -6);
        for (int c = 0; c < 12; c++) {
            due("add " + c, x.add(c % 6, c % 10, c % 2, 80 - c), c);
        }
        due("add a 13th", x.add(0, 0, 0, 0), -6);
        due("count(0)", x.count(0), 12);
        due("found on the last", new JealousByCalendar().add(0, 0, 0, 83), 0);

        promise = 5;
        int[][] keepsAndWeight = {{5, 1}, {12, 4}, {3, 6}, {0, 2}, {3, 19}, {27, 7}, {11, 7}, {24, 10}, {6, 18}, {0, 5}, {1, 11}, {19, 3}};
        for (int c = 0; c < 12; c++) {
            due("kind " + c, x.cause(c, 0), c % 6);
            due("figure " + c, x.cause(c, 1), c % 10);
            due("for " + c, x.cause(c, 2), c % 2);
            due("found " + c, x.cause(c, 3), 80 - c);
            due("used " + c, x.cause(c, 4), 0);
            due("keeps " + c, x.cause(c, 5), keepsAndWeight[c][0]);
            due("weight " + c, x.cause(c, 6), keepsAndWeight[c][1]);
            due("sour " + c, x.cause(c, 7), 0);
            due("good " + c, x.cause(c, 8), 0);
        }
        due("cause(12, 9)", x.cause(12, 9), -1);
        due("cause(-1, 0)", x.cause(-1, 0), -1);
        due("cause(0, -1)", x.cause(0, -1), -2);
        due("cause(0, 9)", x.cause(0, 9), -2);
        // A CAUSE with FIGURE 0 keeps 5 DAYS: good for DAY 5, sour on 6; REAL is good on any weekday.
        x = told("c00000;c40001;w05;d5;");
        due("good on the last", x.cause(0, 8), 1);
        due("not sour on the last", x.cause(0, 7), 0);
        due("real is sour", x.cause(1, 7), 1);
        x.end();
        due("sour behind", x.cause(0, 7), 1);
        due("not good behind", x.cause(0, 8), 0);
        x = told("c49001;");
        due("not good ahead", x.cause(0, 8), 0);
        x.end();
        due("real on another weekday", x.cause(0, 8), 1);
        x.use(0);
        due("good though used", x.cause(0, 8), 1);
        due("used", x.cause(0, 4), 1);
        due("the figure", x.cause(0, 1), 9);
        for (int i = 0; i < 9; i++) x.end();
        due("used is never sour", x.cause(0, 7), 0);
    }

    private static void letters() {
        promise = 2;
        JealousByCalendar x = new JealousByCalendar();
        due("feed(-1)", x.feed(-1), -4);
        due("feed(256)", x.feed(256), -6);
        due("feed(least)", x.feed(LEAST), -4);
        due("feed(most)", x.feed(MOST), -6);
        due("feed(0)", x.feed(0), 1);
        due("feed(255)", x.feed(255), 2);
        for (int i = 3; i <= 96; i++) {
            due("feed", x.feed(';'), i);
        }
        due("feed a 97th", x.feed('d'), -6);
        due("a 97th below 0", x.feed(-1), -4);
        due("count(4)", x.count(4), 96);

        promise = 3;
        due("marriage", x.marriage(), -1000);
        due("no letters then", x.count(4), 0);
        String[][] faults = {
            {"", "-1000"}, {";", "-1000"}, {"d", "-1001"}, {"d1", "-1002"}, {"dd", "-1001"}, {"d1d", "-1002"}, {"d12;", "-1002"},
            {"d1; ", "-1003"}, {"d1;x", "-1003"}, {"w", "-1001"}, {"w0", "-1002"}, {"w00", "-1003"}, {"w000;", "-1003"},
            {"p000;", "-1004"}, {"p0000", "-1005"}, {"p0;", "-1002"}, {"c0000;", "-1005"}, {"c00000", "-1006"},
            {"c0000:;", "-1005"}, {"u0;", "-1002"}, {"u00", "-1003"}, {"W00;", "-1000"}, {"d/;", "-1001"}, {"d:;", "-1001"},
            {"w20;", "-2000"}, {"w07;", "-2000"}, {"p2000;", "-2000"}, {"c60000;", "-2000"}, {"c00200;", "-2000"},
            {"c00084;", "-2000"}, {"u00;", "-2000"}, {"d1;u99;", "-2003"}, {"w99;d", "-1005"}, {"d9;c00010;u00;", "-2010"},
            {"c00000;u00;u00;", "-2011"}, {"c00000;c00000;u00;u01;", "-2018"}, {"c00000;d1;u00;", "-2010"},
        };
        x = new JealousByCalendar();
        for (String[] fault : faults) {
            due("tell " + fault[0], tell(x, fault[0]), Integer.parseInt(fault[1]));
            due("no letters behind " + fault[0], x.count(4), 0);
        }
        due("nothing came", x.count(0) + x.count(1) + x.one(0, 2), 0);
        for (int code = 11; code <= 16; code++) {
            due("nothing is counted", x.count(code), 0);
        }
        due("tell all", tell(x, "w16;p1007;c29101;c30000;u01;d6;u00;d0;"), 8);
        due("weekday", x.one(1, 0), 6);
        due("used", x.count(2), 3);
        due("day", x.count(1), 6);
        // She pays 0 (LENT 0 weighs 0) and has 7; he pays her 20 of his 50 on DAY 6.
        due("her purse", x.one(1, 1), 27);
        due("his purse", x.one(0, 1), 30);
        x = told("d9;d9;d9;d9;d9;d9;d9;d9;d9;d1;");
        due("beyond 83", tell(x, "d1;d1;"), -2003);
        due("not beyond", tell(x, "d1;d0;"), 2);
        due("at 83", tell(x, "d0;d1;"), -2003);
        x = told("c00000;c00000;c00000;c00000;c00000;c00000;c00000;c00000;c00000;c00000;c00000;");
        due("no room", tell(x, "c00000;c00000;"), -2007);
        due("eleven", x.count(0), 11);
        StringBuilder longest = new StringBuilder();
        for (int i = 0; i < 32; i++) longest.append("d0;");
        due("96 letters", tell(x, longest.toString()), 32);
        due("96 letters, cut", tell(x, longest.substring(0, 93) + "w00"), -1096);
    }

    private static void uses() {
        promise = 8;
        JealousByCalendar x = told("c09000;c09000;c09100;c09003;");
        due("use(4)", x.use(4), -1);
        due("use(-1)", x.use(-1), -1);
        due("not her weekday", x.use(2), -3);
        due("found later", x.use(3), -3);
        due("use(0)", x.use(0), 10);
        due("his purse", x.one(0, 1), 60);
        due("her purse", x.one(1, 1), 40);
        due("he was jealous", x.one(0, 4), 1);
        due("she was not", x.one(1, 4), 0);
        due("jealous already", x.use(1), -3);
        due("used already", x.use(0), -3);
        due("owed", x.one(1, 3), 0);
        // As many as there are.
        x = told("c49000;p1007;");
        due("of 29 seven", x.use(0), 7);
        due("the rest is owed", x.one(1, 3), 22);
        due("purse empty", x.one(1, 1), 0);
        // As many as his can hold.
        x = told("c49000;p0990;");
        due("of 29 nine", x.use(0), 9);
        due("the rest is owed", x.one(1, 3), 20);
        due("her purse keeps", x.one(1, 1), 41);
        due("his is full", x.one(0, 1), 999);
        // It is she whose weekday it is.
        x = told("c09100;w10;");
        due("hers", x.use(0), 10);
        due("he pays", x.one(0, 1), 40);
        due("she is jealous", x.one(1, 4), 1);
        due("he is not", x.one(0, 4), 0);
        x = told("c00000;d5;w05;");
        due("on the last it keeps", x.use(0), 1);
        x = told("c00000;d6;w06;");
        due("sour", x.use(0), -3);
        x = told("c20001;d1;w01;");
        due("found on the day", x.use(0), 2);

        promise = 9;
        x = told("c09000;p1002;w10;");
        x.use(0);
        due("end", x.end(), 1);
        due("jealous: no fine", x.one(0, 1), 52);
        due("not jealous: borrows", x.one(1, 2), 1);
        due("pays what there is", x.one(1, 1), 0);
        due("he borrows none", x.one(0, 2), 0);
        due("not jealous on the next", x.one(0, 4), 0);
        x = new JealousByCalendar();
        for (int d = 1; d <= 83; d++) {
            due("end", x.end(), d);
        }
        due("83 does not end", x.end(), -6);
        due("his twelve", x.one(0, 2), 12);
        due("her twelve", x.one(1, 2), 12);
        due("his purse", x.one(0, 1), 14);
    }

    private static void takingBack() {
        promise = 10;
        JealousByCalendar x = told("c09000;");
        due("none", x.back(), -3);
        x.use(0);
        x.end();
        due("two", x.count(6), 2);
        x.feed('d');
        tell(x, "x");
        x.use(9);
        due("letters, a fault, a refusal leave them", x.count(6), 2);
        due("back", x.back(), 0);
        due("jealous again", x.one(0, 4), 1);
        due("back", x.back(), 0);
        due("not used", x.count(2), 0);
        due("purses", x.one(0, 1) * 1000 + x.one(1, 1), 50050);
        due("none", x.back(), -3);
        for (int i = 0; i < 10; i++) x.end();
        due("eight at most", x.count(6), 8);
        for (int i = 9; i >= 2; i--) {
            due("back", x.back(), i);
        }
        due("older no more", x.back(), -3);
        x.end();
        x.set(0, 0, 9);
        x.add(9, 0, 0, 0);
        x.restore();
        due("refused ones leave them", x.count(6), 1);
        x.image();
        x.row(3);
        x.judge(0);
        due("what is not of I leaves them", x.count(6), 1);
        x.set(0, 0, x.one(0, 0));
        due("set leaves none", x.count(6), 0);
        x.end();
        x.add(0, 0, 0, 0);
        due("add leaves none", x.count(6), 0);
        x.end();
        tell(x, "d0;");
        due("a marriage leaves none", x.count(6), 0);
        x.end();
        x.restore();
        due("restore leaves none", x.count(6), 0);
        due("none", x.back(), -3);

        promise = 46;
        x = told("c09000;p1020;");
        x.use(0);
        x.end();
        due("image", x.image(), 1);
        promise = 47;
        x.feed('d');
        x.row(5);
        tell(x, "w");
        x.feed('d');
        x.set(0, 0, 5);
        x.set(1, 1, 7);
        x.add(0, 0, 0, 0);
        x.end();
        x.one(7, 7);
        due("restore", x.restore(), 1);
        due("weekday", x.one(0, 0), 0);
        due("purse", x.one(1, 1), 10);
        due("causes", x.count(0), 1);
        due("used", x.count(2), 1);
        due("letters stay", x.count(4), 1);
        due("the row stays", x.count(5), 1);
        due("refusals stay", x.count(11), 1);
        x.end();
        due("restore again", x.restore(), 1);
        x = new JealousByCalendar();
        due("no image", x.restore(), -3);
        x.image();
        x.end();
        due("an image of DAY 0", x.restore(), 0);
        x = told("c09000;");
        x.use(0);
        x.image();
        x.end();
        x.restore();
        due("jealous in the image", x.one(0, 4), 1);
    }

    private static void byHandAndLaid() {
        promise = 11;
        JealousByCalendar x = told("c09000;");
        due("needed(0, 83)", x.needed(0, 83), 12);
        due("needed(1, 83)", x.needed(1, 83), 12);
        due("needed(0, 6)", x.needed(0, 6), 1);
        due("needed(0, 7)", x.needed(0, 7), 2);
        due("needed(1, 2)", x.needed(1, 2), 0);
        x.use(0);
        due("jealous on DAY", x.needed(0, 7), 1);
        due("needed(2, -1)", x.needed(2, -1), -1);
        due("needed(0, -1)", x.needed(0, -1), -4);
        due("needed(0, 84)", x.needed(0, 84), -6);

        promise = 12;
        // 0 keeps to 14, 1 to 7, 2 (found on 14) to 19: DAY 0 takes 1, DAY 7 takes 0, DAY 14 takes 2.
        x = told("c09000;c02000;c00014;");
        due("without", x.byHand(0, 20, 0), 0);
        due("none without", x.byHand(0, 20, 1), -9);
        due("without", x.byHand(0, 83, 0), 9);
        due("first without", x.byHand(0, 83, 1), 21);
        due("hers", x.byHand(1, 83, 1), 3);
        due("used once", told("c09000;").byHand(0, 14, 0), 2);
        due("the first day counts", new JealousByCalendar().byHand(0, 0, 0), 1);
        due("on DAY 0", new JealousByCalendar().byHand(0, 83, 1), 0);
        // DAY 0 takes 2 (to 4), DAY 7 takes 0 (to 9), so DAY 14 has 1 (to 14).
        due("soonest, not the least", told("c04000;c09000;c23000;").byHand(0, 14, 0), 0);
        due("soonest, not the last", told("c23000;c04000;c09000;").byHand(0, 14, 0), 0);
        due("byHand(2, -1, 2)", x.byHand(2, -1, 2), -1);
        due("byHand(0, -1, 2)", x.byHand(0, -1, 2), -4);
        due("byHand(0, 84, 2)", x.byHand(0, 84, 2), -6);
        due("byHand(0, 83, 2)", x.byHand(0, 83, 2), -2);
        due("byHand(0, 83, -1)", x.byHand(0, 83, -1), -2);

        promise = 13;
        due("value", x.laid(0, 20, -1), 3014);
        due("first", x.laid(0, 20, 0), 0);
        due("second", x.laid(0, 20, 1), 1);
        due("third", x.laid(0, 20, 2), 2);
        due("no such day", x.laid(0, 20, 3), -9);
        due("most", x.laid(0, 20, MOST), -9);
        due("of one day the heaviest", x.laid(0, 0, 0), 0);
        due("its value", x.laid(0, 0, -1), 1010);
        // Both have the same weight: the least comes first; REAL too, on his weekday alone.
        x = told("c19000;c09007;c49007;c19000;");
        due("value", x.laid(0, 14, -1), 3053);
        due("the least cause", x.laid(0, 14, 0), 0);
        due("then the least", x.laid(0, 14, 1), 2);
        due("then the rest", x.laid(0, 14, 2), 3);
        due("laid(2, -1, 0)", x.laid(2, -1, 0), -1);
        due("laid(0, -1, 0)", x.laid(0, -1, 0), -4);
        due("laid(0, 84, -2)", x.laid(0, 84, -2), -4);
        due("laid(0, 84, 0)", x.laid(0, 84, 0), -6);
        // A day without comes behind all: two LENT on one day, none for the next.
        x = told("c39000;c38000;");
        due("one day only", x.laid(0, 83, -1), 1005);
        due("the heavier", x.laid(0, 83, 0), 0);
        due("none", x.laid(0, 83, 1), -9);

        promise = 34;
        x = told("c39000;c39007;c39021;");
        due("with", x.streak(0, 34, 0), 2);
        due("without", x.streak(0, 34, 1), 1);
        due("without", x.streak(0, 83, 1), 8);
        due("none needed", x.streak(1, 2, 1), 0);
        due("streak(2, -1, 2)", x.streak(2, -1, 2), -1);
        due("streak(0, -1, 2)", x.streak(0, -1, 2), -4);
        due("streak(0, 84, 2)", x.streak(0, 84, 2), -6);
        due("streak(0, 83, 2)", x.streak(0, 83, 2), -2);

        promise = 35;
        x = told("c39000;c39007;c39107;c39114;c39121;c39021;w10;");
        due("how many", x.quarrel(83, 0), 2);
        due("the first", x.quarrel(83, 1), 7);
        due("none", x.quarrel(6, 0), 0);
        due("none", x.quarrel(6, 1), -9);
        due("on DAY itself", told("c39000;c39100;w10;").quarrel(0, 0), 1);
        due("quarrel(-1, 2)", x.quarrel(-1, 2), -4);
        due("quarrel(84, 2)", x.quarrel(84, 2), -6);
        due("quarrel(83, 2)", x.quarrel(83, 2), -2);
    }

    private static void sets() {
        promise = 14;
        // Two LENT on DAY 0: the lighter is wasted; of two alike each alone could go, as can all found later.
        JealousByCalendar x = told("c39000;c37000;c39107;c05007;c05007;c09007;");
        due("wasted", x.wasted(0, 0), 58);
        due("wasted", x.wasted(0, 14), 2 + 8 + 16);
        due("all found later", x.wasted(0, 6), 58);
        due("not for her", x.wasted(1, 83), 4);
        due("number 0", told("c37000;c39000;").wasted(0, 0), 1);
        due("wasted(2, -1)", x.wasted(2, -1), -1);
        due("wasted(0, -1)", x.wasted(0, -1), -4);
        due("wasted(0, 84)", x.wasted(0, 84), -6);

        promise = 15;
        due("worth", x.worth(0, 0), 1);
        due("no worth", x.worth(1, 0), 0);
        due("a whole day", x.worth(5, 14), 4);
        due("hers on no day of hers", x.worth(2, 83), 0);
        x.use(0);
        due("used", x.worth(0, -1), -3);
        due("worth(6, 0)", x.worth(6, 0), -1);
        due("worth(1, -1)", x.worth(1, -1), -4);
        due("worth(1, 84)", x.worth(1, 84), -6);
        x = told("c39000;");
        due("a day and its weight", x.worth(0, 83), 1005);

        promise = 16;
        // DAYS 0 and 7 have one together, but each has one: two days at once; DAY 14 has none.
        x = told("c09000;");
        due("two", x.notAll(0, 7), 3);
        due("one", x.notAll(0, 14), 3);
        due("one day of none", x.notAll(0, 21), 8);
        due("none", x.notAll(0, 0), -9);
        due("DAY 0", new JealousByCalendar().notAll(0, 83), 1);
        due("none needed", x.notAll(1, 2), -9);
        x = told("c39000;c39007;c39014;c39021;c39028;c39035;c39042;c39049;");
        due("of the first eight none", x.notAll(0, 83), -9);
        due("notAll(2, -1)", x.notAll(2, -1), -1);
        due("notAll(0, -1)", x.notAll(0, -1), -4);
        due("notAll(0, 84)", x.notAll(0, 84), -6);

        promise = 32;
        x = told("c39000;c39000;c39003;c39103;c39103;c38103;");
        due("bits", x.spare(83, 0), 1 + 4 + 8 + 32);
        due("how many", x.spare(83, 1), 4);
        due("to DAY 0 alone", x.spare(0, 0), 1 + 4 + 8 + 16 + 32);
        due("spare(-1, 2)", x.spare(-1, 2), -4);
        due("spare(84, 2)", x.spare(84, 2), -6);
        due("spare(83, 2)", x.spare(83, 2), -2);
        due("none", new JealousByCalendar().spare(83, 1), 0);

        promise = 33;
        x = told("c00000;c49109;");
        due("the first without", x.over(0), 16);
        due("the last with", x.over(1), 15);
        due("over(2)", x.over(2), -2);
        due("over(-1)", x.over(-1), -2);
        x = told("c39083;w06;");
        due("none till 83", x.over(0), 84);
        due("83", x.over(1), 83);
        x = told("d4;c00000;");
        due("from DAY on", x.over(0), 4);
        due("none", x.over(1), -9);
        due("on DAY itself", told("c39000;").over(1), 0);
        due("from the next on", told("c39000;").over(0), 1);
    }

    private static void weekdays() {
        promise = 17;
        JealousByCalendar x = told("c09000;c39002;");
        due("on 0: 10 and two without", x.settled(0, 0, 20), 10 - 6);
        due("on 2: 10 on DAY 9, 5 on DAY 2", x.settled(0, 2, 20), 15 - 3);
        due("on 6: 10, two without", x.settled(0, 6, 20), 10 - 6);
        due("on 4: none needed", x.settled(0, 4, 3), 0);
        due("hers", x.settled(1, 3, 20), -9);
        due("settled(2, 0, 0)", x.settled(2, 0, 0), FAR + 1);
        due("settled(0, 7, -1)", x.settled(0, 7, -1), FAR + 1);
        due("settled(0, -1, 84)", x.settled(0, -1, 84), FAR + 1);
        due("settled(0, 0, -1)", x.settled(0, 0, -1), FAR + 4);
        due("settled(0, 0, 84)", x.settled(0, 0, 84), FAR + 6);
        due("counted", x.count(11), 3);
        x.use(0);
        due("jealous on DAY", x.settled(0, 0, 6), 0);

        promise = 18;
        due("of several the least", x.bestWeekday(1, 83), 0);
        due("bestWeekday(2, -1)", x.bestWeekday(2, -1), -1);
        due("bestWeekday(0, -1)", x.bestWeekday(0, -1), -4);
        due("bestWeekday(0, 84)", x.bestWeekday(0, 84), -6);
        due("the best", told("c09000;c39002;").bestWeekday(0, 20), 2);
        due("0 is the best", told("c39000;").bestWeekday(0, 20), 0);
        due("1 is the best", told("c39001;").bestWeekday(0, 20), 1);
        due("the best in the middle", told("c35001;c39002;c37003;").bestWeekday(0, 20), 2);

        promise = 19;
        due("nothing: the first two that are not alike", new JealousByCalendar().neither(83), 1);
        // To DAY 6 his REAL is good from 0 to 6: he has 29 on each; she has 29 on 0 .. 6 as well.
        due("all the same", told("c49000;c49100;").neither(6), 1);
        // He has 5 on DAY 0 alone, she too: alike would be less 10 for both.
        due("alike costs", told("c39000;c39100;").neither(0), 1);
        // Worth more than 10: both stay.
        due("alike on 0 costs: he has more on 0, she on 1", told("c39000;c39101;c39100;").neither(20), 1);
        due("each his own", told("c39002;c39105;").neither(20), 25);
        due("9 is not worth 10", told("c08000;c08100;").neither(0), 1);
        due("10 is", told("c09000;c09100;").neither(0), 0);
        due("she would go to 0", told("c39100;c39107;c39114;").neither(20), 10);
        // 0 his and 3 hers: either would be alike by taking what is best for him.
        due("neither his own", told("c39003;c39100;").neither(20), 3);
        due("alike all the same", told("c49000;w01;w11;c49100;c49000;c49100;").neither(0), 0);
        due("neither(-1)", x.neither(-1), -4);
        due("neither(84)", x.neither(84), -6);

        promise = 21;
        due("months of a week", x.months(3, 7, 0), 12);
        due("one each", x.months(3, 7, 1), 1);
        due("the first", x.months(3, 7, 2), 0);
        // Months of 31: DAYS 0 .. 30 and 31 .. 61; weekday 4: 4, 11, 18, 25 and 32, 39, 46, 53, 60.
        due("five", x.months(4, 31, 1), 5);
        due("in one", x.months(4, 31, 0), 1);
        due("the second", x.months(4, 31, 2), 1);
        // Four whole months of 17: 0 7 14, 21 28, 35 42 49, 56 63; a fifth would end on 84.
        due("whole ones", x.months(0, 17, 0), 2);
        due("the first day counts", x.months(0, 7, 1), 1);
        due("months(7, 6, 3)", x.months(7, 6, 3), -1);
        due("months(-1, 7, 0)", x.months(-1, 7, 0), -1);
        due("months(0, 6, 3)", x.months(0, 6, 3), -4);
        due("months(0, 32, 3)", x.months(0, 32, 3), -6);
        due("months(0, 31, 3)", x.months(0, 31, 3), -2);
        due("months(0, 31, -1)", x.months(0, 31, -1), -2);

        promise = 36;
        x = told("c39000;c39103;");
        due("both lose", x.swapped(83), -2010);
        x.run(0, 83, 0);
        due("from now again", x.swapped(83), -2010);
        x = told("c39003;c38003;c39100;");
        x.run(0, 83, 0);
        due("both win", x.swapped(83), 2010);
        due("his alone", x.swapped(2), 1005);
        due("swapped(-1)", x.swapped(-1), FAR + 4);
        due("swapped(84)", x.swapped(84), FAR + 6);
    }

    private static void heaps() {
        promise = 20;
        JealousByCalendar x = told("c04000;c04000;c02000;");
        due("5, 5, 3: he has 3 more", x.turns(0), 3);
        due("the least", x.turns(1), 0);
        x = told("c02000;c04000;c04000;");
        due("3 first is as good", x.turns(1), 0);
        x = told("c02000;c04100;");
        due("hers too", x.turns(0), 2);
        due("5, 6, 4", told("c04000;c05000;c03000;").turns(0), 5);
        due("6 is best", told("c04000;c05000;c03000;").turns(1), 1);
        due("the heavier", x.turns(1), 1);
        x = new JealousByCalendar();
        due("none", x.turns(0), 0);
        due("none", x.turns(1), -9);
        due("turns(2)", x.turns(2), FAR + 2);
        due("turns(-1)", x.turns(-1), FAR + 2);
        x = told("c02000;c04000;w00;u01;");
        due("not the used one", x.turns(0), 3);

        promise = 31;
        x = told("c02000;c04000;c01100;c09000;");
        // 3 5 2 10: 10 against 10; the first heap has number 0.
        due("even", x.alike(0), 0);
        due("the first heap", x.alike(1), 7);
        x.use(0);
        // 5 2 10: 7 against 10; the first is number 1.
        due("three apart", x.alike(0), 3);
        due("number 0 of these", x.alike(1), 6);
        due("alike(2)", x.alike(2), -2);
        x = told("c00000;c00000;c00000;c00000;");
        due("the least bits", x.alike(1), 3);
        due("a single one", told("c05000;").alike(0), 6);
        due("is the first heap", told("c05000;").alike(1), 1);
        due("9 10 1", told("c08000;c09000;c00000;").alike(0), 0);
        due("9 and 1 against 10", told("c08000;c09000;c00000;").alike(1), 5);
        due("0 against 10", told("c30000;c09000;").alike(0), 10);
        due("0 weighs nothing, the least bits", told("c30000;c09000;").alike(1), 1);
    }

    private static void rows() {
        promise = 42;
        JealousByCalendar x = new JealousByCalendar();
        due("row(-1)", x.row(-1), -4);
        due("row(100)", x.row(100), -6);
        for (int i = 1; i <= 12; i++) {
            due("row", x.row(i % 2 * 99), i);
        }
        due("a 13th", x.row(0), -6);
        promise = 44;
        due("clear", x.clear(), 12);
        due("clear", x.clear(), 0);

        promise = 22;
        x = told("c09000;c05007;c39007;c39107;");
        row(x, 0, 7);
        due("0 then 1 or 2", x.meant(0, 0), 2);
        due("in all", x.meant(0, 1), 1);
        due("in some", x.meant(0, 2), 7);
        row(x, 0, 7, 14, 21);
        due("no way", x.meant(0, 0), 0);
        due("all of his", x.meant(0, 1), 7);
        due("none", x.meant(0, 2), 0);
        row(x);
        due("one way of nothing", x.meant(0, 0), 1);
        due("in all none", x.meant(0, 1), 0);
        due("in some none", x.meant(0, 2), 0);
        due("meant(2, 3)", x.meant(2, 3), LONG + 1);
        row(x, 1);
        due("meant(0, 3)", x.meant(0, 3), LONG + 2);
        due("another weekday", x.meant(0, 0), LONG + 3);
        row(x, 7, 7);
        due("does not rise", x.meant(0, 0), LONG + 3);
        row(x, 83);
        x.set(0, 0, 6);
        due("83 is a day", x.meant(0, 0), 0);
        x.set(0, 0, 0);
        row(x, 84);
        due("above 83", x.meant(0, 0), LONG + 3);
        row(x, 0, 7, 14, 21, 28, 35, 42, 49, 56);
        due("nine", x.meant(0, 0), LONG + 3);
        row(x, 0, 7, 14, 21, 28, 35, 42, 49);
        due("eight", x.meant(0, 0), 0);
        due("the row stays", x.count(5), 8);
        due("counted", x.count(13), 4);
        // Twelve NOTES that keep 35: 12 by 11 by 10 by 9 by 8 by 7 ways for six days.
        x = new JealousByCalendar();
        for (int i = 0; i < 12; i++) x.add(5, 9, 0, 0);
        row(x, 0, 7, 14, 21, 28, 35);
        due("665280 ways", x.meant(0, 0), 665280);
        due("in some all", x.meant(0, 2), 4095);
        x.use(3);
        due("not the used one", x.meant(0, 0), 332640);
        x = told("c39000;c39007;c39014;c39021;c39028;c39035;c39042;c39049;c39056;");
        row(x, 0, 7, 14, 21, 28, 35, 42, 49);
        due("one for each of the eight", x.meant(0, 0), 1);
        due("all but the ninth", x.meant(0, 1), 255);

        promise = 23;
        x = new JealousByCalendar();
        row(x, 5, 12, 26);
        due("each 7th from 5, each day", x.law(0), 2);
        due("the greatest", x.law(1), 705);
        row(x, 83);
        due("one for each k", x.law(0), 20);
        due("20 and 3", x.law(1), 2003);
        row(x, 0, 1);
        due("each day", x.law(1), 100);
        row(x, 84);
        due("law(2)", x.law(2), -2);
        due("above 83", x.law(0), -3);
        due("the row stays", x.count(5), 1);

        promise = 24;
        row(x, 0, 2, 4);
        due("one friend", x.friends(0), 1);
        row(x, 0, 6);
        due("6 is ahead of 0", x.friends(0), 2);
        row(x, 0, 1, 0);
        due("0 and 1", x.friends(0), 3);
        row(x, 0, 6);
        row(x, 0, 1, 2, 3, 4, 5, 6);
        due("an odd ring", x.friends(0), 3);
        due("the least", x.friends(1), 0);
        row(x, 5, 5, 3, 3, 1);
        due("two on one", x.friends(0), 2);
        due("the busiest", x.friends(1), 3);
        row(x, 7);
        due("friends(2)", x.friends(2), -2);
        due("above 6", x.friends(1), -3);
        due("the row stays", x.count(5), 1);

        promise = 43;
        x = told("p0005;");
        row(x, 2, 2, 2);
        due("as told", x.judge(0), -9);
        due("the row is gone", x.count(5), 0);
        row(x, 2, 3);
        due("the second", x.judge(0), 1);
        row(x, 3, 2);
        x.run(0, 83, 0);
        due("the first", x.judge(0), 0);
        due("the row is gone", x.count(5), 0);
        row(x, 50);
        due("nobody", x.judge(2), -1);
        due("the row stays", x.count(5), 1);
        due("hers", x.judge(1), -9);
        x = told("p0500;");
        row(x, 99, 98);
        due("99 for more", x.judge(0), 1);
        x = told("d9;d9;d9;d9;d9;d9;d9;d9;d9;d1;");
        row(x, 14, 14);
        due("beyond 83", x.judge(0), 1);
        due("none told", x.judge(0), -9);
    }

    private static void chances() {
        promise = 25;
        JealousByCalendar x = new JealousByCalendar();
        due("nothing over 1", x.chance(7, 0, 0), 0);
        due("over 1", x.chance(7, 0, 1), 1);
        due("5 of 9", x.chance(3, 2, 0), 5);
        due("of 9", x.chance(3, 2, 1), 9);
        due("chance(1, 13, 2)", x.chance(1, 13, 2), LONG + 4);
        due("chance(21, -1, 2)", x.chance(21, -1, 2), LONG + 4);
        due("chance(21, 0, 2)", x.chance(21, 0, 2), LONG + 6);
        due("chance(2, 13, 2)", x.chance(2, 13, 2), LONG + 6);
        due("chance(2, 12, -1)", x.chance(2, 12, -1), LONG + 2);
        promise = 26;
        due("one in two", x.keep(2), 1);
        due("one in three", x.keep(3), 2);
        due("one in four", x.keep(4), 3);
        due("one in 17", x.keep(17), 12);
        due("one in 18", x.keep(18), -9);
        due("one in 20", x.keep(20), -9);
        due("20 is not too much", x.chance(20, 1, 1), 20);
        due("keep(1)", x.keep(1), -4);
        due("keep(21)", x.keep(21), -6);
    }

    private static void runs() {
        promise = 27;
        JealousByCalendar x = told("c49000;c09107;p1020;");
        due("DAY itself has not been", x.run(0, 0, 0), 50);
        due("29 of 20", x.run(0, 1, 0), 70);
        due("she owes", x.run(1, 1, 2), 9);
        due("on DAY 10 he pays", x.run(1, 11, 0), 10);
        due("on DAY 3 she borrowed", x.run(1, 11, 1), 1);
        due("on DAY 7 he paid 3", x.run(0, 11, 0), 70 - 3 - 10);
        due("from now again", x.run(0, 0, 0), 50);
        due("nothing is done", x.count(1) + x.count(2), 0);
        due("run(2, -1, 3)", x.run(2, -1, 3), -1);
        due("run(0, -1, 3)", x.run(0, -1, 3), -4);
        due("run(0, 84, 3)", x.run(0, 84, 3), -6);
        due("run(0, 83, 3)", x.run(0, 83, 3), -2);

        promise = 37;
        // BY HAND: LAUGH (to DAY 2) ahead of the CAUSE (to 5); on DAY 83 one is used, too.
        x = told("c00000;c20000;c39083;");
        due("soonest sour", x.usedOn(0, 0), 1);
        due("then none", x.usedOn(0, 7), -9);
        due("not his day", x.usedOn(0, 83), -9);
        due("number 0", told("c20000;c09000;").usedOn(0, 0), 0);
        due("of two alike the least", told("d1;c04000;c00004;").usedOn(0, 7), 0);
        x.set(0, 0, 6);
        due("the last day", x.usedOn(0, 83), 2);
        due("usedOn(-1, -1)", x.usedOn(-1, -1), -1);
        due("usedOn(0, -1)", x.usedOn(0, -1), -4);
        due("usedOn(0, 84)", x.usedOn(0, 84), -6);
        x = told("c00000;c20000;");
        x.use(0);
        due("jealous on DAY", x.usedOn(0, 0), -9);

        promise = 39;
        x = told("c09100;c09107;w11;");
        due("on DAY 1 ten, on DAY 8 ten and two fines", x.need(0, 83), 26);
        due("not yet", x.need(0, 1), 0);
        due("hers", x.need(1, 83), 0);
        due("from now again", x.need(0, 83), 26);
        due("what he was paid", told("c09000;c09103;").need(0, 83), 0);
        // She pays 3 on DAY 3 and has none for DAY 7; he pays 3 on DAY 0 and 10 on DAY 10.
        due("her fine", told("p1003;c09007;c09110;").need(0, 83), 13);
        // He pays 3 and 10, she pays the 10 back on DAY 7, and he again on DAY 10.
        due("there and back", told("p1000;c39103;c39007;c39110;").need(0, 83), 8);
        due("at the end of all twelve weeks", told("c49180;").need(0, 83), 12 * 3 + 29);
        x = told("c09100;w10;");
        due("on DAY", x.need(0, 83), 10);
        x.use(0);
        due("no more of it", x.need(0, 83), 0);
        x = told("c09100;w11;p1990;");
        due("she can not hold it", x.need(0, 83), -9);
        due("need(2, -1)", x.need(2, -1), -1);
        due("need(0, -1)", x.need(0, -1), -4);
        due("need(0, 84)", x.need(0, 84), -6);

        promise = 41;
        x = told("c49000;c49107;c49007;w10;");
        due("both on DAY 7", x.heavyDay(83, 0), 7);
        due("58", x.heavyDay(83, 1), 58);
        due("n itself", x.heavyDay(0, 0), 0);
        due("29", x.heavyDay(0, 1), 29);
        x = told("c30000;");
        due("a weight of 0 is none", x.heavyDay(83, 0), -9);
        due("0", x.heavyDay(83, 1), 0);
        x = told("c39000;c39007;");
        due("of several the first", x.heavyDay(83, 0), 0);
        due("heavyDay(-1, 2)", x.heavyDay(-1, 2), -4);
        due("heavyDay(84, 2)", x.heavyDay(84, 2), -6);
        due("heavyDay(83, 2)", x.heavyDay(83, 2), -2);

        promise = 45;
        x = new JealousByCalendar();
        due("three years without causes", x.lots(3, 7), 72);
        x.end();
        due("with what was", x.lots(1, 7), 24);
        // z = 1: 1103527590 over 65536 is 16838, modulo 84 it is 38: FOUND on DAY 38, good on 42.
        due("one is used", told("c09000;").lots(1, 1), 23);
        // LENT is good on its day alone: 38 is of weekday 3.
        due("hers on 38", told("c39100;").lots(1, 1), 23);
        due("his not on 38", told("c39000;").lots(1, 1), 24);
        due("the first draw of 0 is 0", told("c39000;").lots(1, 0), 23);
        // From 1: 38 (weekday 3), then 46 (weekday 4).
        due("in both years", told("c09000;").lots(2, 1), 46);
        due("two draws in one year", told("c39100;c39002;w04;").lots(1, 1), 22);
        due("hers in the first year alone", told("c39100;").lots(2, 1), 47);
        due("lots(0, 1)", x.lots(0, 1), -4);
        due("lots(21, 1)", x.lots(21, 1), -6);
        due("lots(20, least)", x.lots(20, LEAST), 480);
    }

    private static void better() {
        promise = 28;
        JealousByCalendar x = told("c49000;");
        due("DAY 7 has none: a NOTE or a GLOVE; the heavier", x.gift(0, 0, 7), 1);
        due("none is more", x.gift(0, 0, 0), -9);
        due("REAL for her", x.gift(1, 9, 6), 4);
        due("gift(2, -1, -1)", x.gift(2, -1, -1), -1);
        due("gift(0, 10, -1)", x.gift(0, 10, -1), -4);
        due("gift(0, -1, 84)", x.gift(0, -1, 84), -4);
        due("gift(0, 10, 0)", x.gift(0, 10, 0), -6);
        due("gift(0, 9, 84)", x.gift(0, 9, 84), -6);
        due("count", x.count(0), 1);
        promise = 29;
        due("the first of the best", x.when(0, 0, 0, 20), 2);
        due("LENT", x.when(0, 3, 0, 83), 7);
        due("n itself", x.when(0, 3, 0, 7), 7);
        due("none", x.when(0, 3, 0, 6), -9);
        due("when(2, 6, -1, -1)", x.when(2, 6, -1, -1), -1);
        due("when(0, 6, -1, -1)", x.when(0, 6, -1, -1), -2);
        due("when(0, 0, 10, -1)", x.when(0, 0, 10, -1), -4);
        due("when(0, 0, -1, 84)", x.when(0, 0, -1, 84), -4);
        due("when(0, 0, 10, 0)", x.when(0, 0, 10, 0), -6);
        due("when(0, 0, 9, 84)", x.when(0, 0, 9, 84), -6);
        for (int i = 0; i < 11; i++) x.add(3, 0, 1, 1);
        promise = 28;
        due("12 causes", x.gift(0, 9, 83), -9);
        promise = 29;
        due("12 causes", x.when(0, 0, 9, 83), -9);

        promise = 30;
        x = told("c39103;c39100;c39107;");
        due("hers on his days, the first", x.changed(83), 1);
        due("number 0", told("c39100;").changed(83), 0);
        x.run(0, 83, 0);
        due("from now again", x.changed(83), 1);
        due("none", told("c39000;").changed(83), -9);
        due("none till 2", told("c39000;").changed(2), -9);
        due("changed(-1)", x.changed(-1), -4);
        due("changed(84)", x.changed(84), -6);

        promise = 38;
        // It must be good on one of 0, 7, 14; from 14 on it would be found too late.
        x = told("c09000;");
        due("14 later", x.delay(0, 20), 14);
        due("7 later", x.delay(0, 13), 7);
        due("hers are none", x.delay(1, 20), 20);
        due("none", told("c39000;").delay(0, 6), 0);
        due("one", told("c00102;").delay(1, 9), 1);
        due("n less DAY", told("d5;").delay(0, 20), 15);
        due("from DAY 5", told("d5;c09005;").delay(0, 20), 9);
        x = told("c39000;c39007;");
        due("both on DAYS of his: 70", x.delay(0, 83), 70);
        x = told("c39082;w06;");
        due("83 at most each", x.delay(0, 83), 83);
        due("delay(2, -1)", x.delay(2, -1), -1);
        due("delay(0, -1)", x.delay(0, -1), -4);
        due("delay(0, 84)", x.delay(0, 84), -6);
    }

    private static void losses() {
        promise = 40;
        JealousByCalendar x = told("c39000;c38000;c49103;c39007;");
        // 5 and 4 on DAY 0, 29 hers, 5 on DAY 7.
        due("hers", x.loss(83, 0), 2);
        due("hers and one", x.loss(83, 1), 203);
        due("to DAY 0", x.loss(0, 0), 0);
        due("both of DAY 0", x.loss(0, 1), 1);
        due("of several the least", told("c39000;c39007;c39014;").loss(83, 0), 0);
        due("of several the least two", told("c39000;c39007;c39014;").loss(83, 1), 1);
        due("one is left", told("c39000;").loss(83, 1), -9);
        due("none", new JealousByCalendar().loss(83, 0), -9);
        due("loss(-1, 2)", x.loss(-1, 2), -4);
        due("loss(84, 2)", x.loss(84, 2), -6);
        due("loss(83, 2)", x.loss(83, 2), -2);
        x.use(0);
        due("not the used one", x.loss(0, 0), 1);
    }

    private static void counts() {
        promise = 48;
        JealousByCalendar x = told("c39000;c05001;d1;");
        x.feed('x');
        x.row(1);
        x.row(2);
        x.end();
        due("causes", x.count(0), 2);
        due("DAY", x.count(1), 2);
        due("none used", x.count(2), 0);
        due("weights", x.count(3), 11);
        due("letters", x.count(4), 1);
        due("row", x.count(5), 2);
        due("back", x.count(6), 1);
        x = told("c39000;c05001;");
        x.use(0);
        due("used", x.count(2), 1);
        due("weights not used", x.count(3), 6);
        x.one(2, 0);
        x.months(9, 0, 0);
        x.one(0, 9);
        x.use(0);
        x.back();
        x.back();
        x.feed(-1);
        x.settled(0, 0, -1);
        x.chance(0, 0, 0);
        x.feed(256);
        int[] refusals = {2, 1, 2, 3, 0, 1};
        for (int i = 0; i < 6; i++) {
            due("refusals " + (-1 - i), x.count(11 + i), refusals[i]);
        }
        int[] others = {-1, 7, 10, 17, LEAST, MOST};
        for (int what : others) {
            due("count(" + what + ")", x.count(what), -9);
        }
        due("not counted", x.count(12), 1);
    }
}
