import java.util.List;

/** The edges of what is told in letters: promises 2 and 3. */
final class EdgesOfMarriage extends Edges {
    private static final String[] STATEMENTS = {"w00;", "p0000;", "c00000;", "u00;", "d0;"};

    static void look() {
        letters();
        statements();
        firstKind();
        secondKind();
        wholeOrNothing();
    }

    private static void letters() {
        edge(2, "A letter comes: how many there are. -4; -6 (255; 96, too).", () -> {
            JealousByCalendar x = new JealousByCalendar();
            due(x, "feed(0)", 1);
            due(x, "feed(255)", 2);
            refused(JealousByCalendar::new, "feed(-1)", -4);
            refused(JealousByCalendar::new, "feed(256)", -6);
            refused(() -> fed(96), "feed(48)", -6);
            refused(() -> fed(96), "feed(256)", -6);
            refused(() -> fed(96), "feed(-1)", -4);
        });
        edge(2, "A MARRIAGE is told in letters, one by one (96 at most)", () -> {
            JealousByCalendar x = new JealousByCalendar();
            for (int i = 0; i < 96; i++) due(x, "feed(" + (int) "d0;".charAt(i % 3) + ")", i + 1);
            due(x, "feed(100)", -6);
            due(x, "count(4)", 96);
            due(x, "marriage()", 32);
            due(x, "feed(100)", 1);
        });
        edge(3, "The letters, which are no more then (with a FAULT neither), are a MARRIAGE: how many STATEMENTS; the FAULT (nothing is counted).", () -> {
            String[] texts = {"d0;", "", "d", "x", "d9;u00;"};
            int[] answers = {1, -1000, -1001, -1000, -2003};
            for (int i = 0; i < texts.length; i++) {
                JealousByCalendar x = new JealousByCalendar();
                due(texts[i], tell(x, texts[i]), answers[i]);
                due(x, "count(4)", 0);
                due("refusals behind " + texts[i], refusals(x), 0);
                due(x, "feed(100)", 1);
                due(x, "marriage()", -1001);
            }
        });
    }

    private static JealousByCalendar fed(int many) {
        JealousByCalendar x = new JealousByCalendar();
        for (int i = 0; i < many; i++) x.feed("d0;".charAt(i % 3));
        return x;
    }

    private static void answers(String before, String text, int want) {
        JealousByCalendar x = told(before);
        due(text + " behind " + before, tell(x, text), want);
    }

    private static void statements() {
        edge(3, "\"w\" one of the TWO, a WEEKDAY (a digit each)", () -> {
            JealousByCalendar x = told("w06;w10;");
            due(x, "one(0, 0)", 6);
            due(x, "one(1, 0)", 0);
            String[] wrong = {"w07;", "w09;", "w17;", "w20;", "w90;", "w27;"};
            for (String text : wrong) answers("", text, -2000);
        });
        edge(3, "\"p\" one of the TWO (a digit), PURSE (3 digits)", () -> {
            JealousByCalendar x = told("p0000;p1999;");
            due(x, "one(0, 1)", 0);
            due(x, "one(1, 1)", 999);
            x = told("p0123;p1007;");
            due(x, "one(0, 1)", 123);
            due(x, "one(1, 1)", 7);
            answers("", "p2000;", -2000);
            answers("", "p9999;", -2000);
        });
        edge(3, "\"c\" KIND, FIGURE, FOR (a digit each), FOUND (2 digits): one more", () -> {
            JealousByCalendar x = told("c00000;c59183;c34009;");
            int[][] all = {{0, 0, 0, 0}, {5, 9, 1, 83}, {3, 4, 0, 9}};
            for (int c = 0; c < 3; c++) {
                for (int what = 0; what < 4; what++) due(x, "cause(" + c + ", " + what + ")", all[c][what]);
            }
            String[] wrong = {"c60000;", "c90000;", "c00200;", "c00900;", "c00084;", "c00099;"};
            for (String text : wrong) answers("", text, -2000);
        });
        edge(3, "\"u\" a CAUSE (2 digits) is used", () -> {
            due(told("c09000;u00;"), "count(2)", 1);
            due(told(causes(12, 0, 9, 0, 0, 0) + "u11;"), "count(2)", 2048);
            due(told(causes(11, 0, 9, 0, 0, 0) + "u10;"), "count(2)", 1024);
            // What is paid is as by use().
            JealousByCalendar x = told("p1003;c09000;u00;");
            due(x, "one(0, 1)", 53);
            due(x, "one(1, 3)", 7);
            due(x, "one(0, 4)", 1);
        });
        edge(3, "\"d\" so many DAYS end (a digit)", () -> {
            due(told("d0;"), "count(1)", 0);
            due(told("d1;"), "count(1)", 1);
            due(told("d9;"), "count(1)", 9);
            // Nothing ends with 0: he is jealous still.
            due(told("c09000;u00;d0;"), "one(0, 4)", 1);
            due(told("c09000;u00;d1;"), "one(0, 4)", 0);
            // Each of them as by end().
            due(told("d9;"), "one(0, 1)", 44);
            due(told("d9;"), "one(0, 2)", 2);
        });
    }

    private static void firstKind() {
        edge(3, "At least one STATEMENT.", () -> {
            answers("", "", -1000);
            answers("", "d0;", 1);
        });
        edge(3, "FAULT: kind 1 the place of the first letter with which no MARRIAGE can go on", () -> {
            // At each place of each STATEMENT, alone and behind another.
            String[] ahead = {"", "d0;", "w00;p0000;"};
            for (String before : ahead) {
                for (String statement : STATEMENTS) {
                    for (int i = 0; i < statement.length(); i++) {
                        for (char letter : wrongFor(statement, i)) {
                            String text = before + statement.substring(0, i) + letter + statement.substring(i + 1);
                            answers("", text, -1000 - before.length() - i);
                        }
                    }
                }
            }
        });
        edge(3, "(the end, if something lacks): -1000 less the place", () -> {
            for (String statement : STATEMENTS) {
                for (int i = 1; i < statement.length(); i++) {
                    answers("", statement.substring(0, i), -1000 - i);
                    answers("", "w00;d0;" + statement.substring(0, i), -1007 - i);
                }
            }
            // One that ends with a STATEMENT lacks nothing.
            answers("", "w00;d0;", 2);
        });
        edge(3, "-1000 less the place; else kind 2", () -> {
            // The last letters that there can be.
            String most = "d0;".repeat(31);
            answers("", most + "d0x", -1095);
            answers("", most + "x0;", -1093);
            answers("", most + "d0", -1095);
            answers("", most + "w00", -1096);
            answers("", most + "d0;", 32);
        });
        edge(3, "each with \";\" behind", () -> {
            answers("", "d0", -1002);
            answers("", "d0:", -1002);
            answers("", "d0d0;", -1002);
            answers("", "d0;;", -1003);
            answers("", ";", -1000);
            answers("", "d00;", -1002);
        });
        edge(3, "kind 1 the place of the first letter with which no MARRIAGE can go on (the end, if something lacks): -1000 less the place; else kind 2", () -> {
            // Kind 1 comes ahead of kind 2, wherever in the text they are.
            answers("", "w99;d", -1005);
            answers("", "u00;x", -1004);
            answers("", "w99;d0;", -2000);
        });
    }

    /** Letters that can not stand at the place: next to the digits, next to what is due, far off. */
    private static char[] wrongFor(String statement, int place) {
        char due = statement.charAt(place);
        if (place == 0) return new char[] {';', '0', 'a', 'e', 'v', 'x', 'W', (char) (due - 32), 0, 255};
        if (due == ';') return new char[] {'0', '9', ':', 'd', ' ', 0, 255};
        return new char[] {'/', ':', ';', 'd', ' ', 0, 255};
    }

    private static void secondKind() {
        edge(3, "else kind 2 the place of the first letter of the first STATEMENT that, behind all ahead of it in the text, is not as it must be", () -> {
            answers("", "c09000;u00;", 2);
            answers("", "u00;c09000;", -2000);
            answers("", "d0;u00;c09000;", -2003);
            answers("", "c09005;w05;u00;", -2011);
            answers("", "c09005;w05;d5;u00;", 4);
            answers("", "c09000;u00;u00;w99;", -2011);
            answers("", "w99;u00;", -2000);
            // What was ahead of the text counts as well.
            answers("c09000;", "u00;", 1);
            answers("c09000;u00;", "d0;u00;", -2003);
        });
        edge(3, "a number out of range", () -> {
            answers("", "w06;w16;p0999;p1999;c00000;c59183;d9;", 7);
            String[] wrong = {"w07;", "w20;", "p2999;", "c60000;", "c00200;", "c00084;"};
            for (String text : wrong) {
                answers("", text, -2000);
                answers("", "d9;" + text, -2003);
            }
        });
        edge(3, "no such one", () -> {
            answers("", "u00;", -2000);
            answers("c09000;", "u00;", 1);
            answers("c09000;", "u01;", -2000);
            answers("c09000;", "u99;", -2000);
            answers(causes(12, 0, 9, 0, 0, 0), "u11;", 1);
            answers(causes(12, 0, 9, 0, 0, 0), "u12;", -2000);
            answers(causes(11, 0, 9, 0, 0, 0), "u11;", -2000);
            answers(causes(11, 0, 9, 0, 0, 0), "c09000;u11;", 2);
        });
        edge(3, "one that can not be used", () -> {
            answers("c09000;c09000;u00;", "u01;", -2000);
            answers("c09000;c09000;u00;", "d7;u01;", 2);
            answers("c49000;u00;", "d1;u00;", -2003);
            answers("c00000;", "d5;w05;u00;", 3);
            answers("c00000;", "d6;w06;u00;", -2007);
            answers("c00001;w01;", "u00;", -2000);
            answers("c00001;w01;", "d1;u00;", 2);
            answers("c00001;", "d1;u00;", -2003);
        });
        edge(3, "DAY beyond 83", () -> {
            answers(days(83), "d0;", 1);
            answers(days(83), "d1;", -2000);
            answers(days(80), "d3;", 1);
            answers(days(80), "d4;", -2000);
            answers(days(80), "d1;d1;d1;d1;", -2009);
            answers(days(74), "d9;", 1);
            answers(days(75), "d9;", -2000);
            answers(days(80), "d0;".repeat(31) + "d9;", -2093);
        });
        edge(3, "no room): -2000 less the place.", () -> {
            String most = causes(12, 0, 0, 0, 0, 1);
            answers("", most, 12);
            answers("c00000;", most, -2077);
            answers(most, "c00000;", -2000);
            answers(most, "d0;d0;c00000;", -2006);
            answers(causes(11, 0, 0, 0, 0, 1), "c00000;c00000;", -2007);
        });
    }

    private static void wholeOrNothing() {
        edge(3, "Without FAULT all of it comes, with one nothing.", () -> {
            String ahead = "w06;p0777;c49000;u01;d9;";
            String[] faults = {"x", "d", "w07;", "d9", "u00;"};
            for (String fault : faults) {
                JealousByCalendar x = told("p1009;c09003;d3;");
                List<Long> was = look(x);
                int answer = tell(x, ahead + fault);
                due("a FAULT by " + fault, answer < 0 ? 1 : 0, 1);
                due("nothing comes with " + fault, look(x).equals(was) ? 1 : 0, 1);
            }
            // CAUSE 1 is the one that the text brings.
            JealousByCalendar x = told("p1009;c09003;d3;");
            due("all", tell(x, "w06;p0777;c49000;u01;d9;"), 5);
            due(x, "count(0)", 2);
            due(x, "count(1)", 12);
            due(x, "count(2)", 2);
            due(x, "one(0, 0)", 6);
            // 777 and 9; on DAY 6 he borrows.
            due(x, "one(0, 1)", 783);
            due(x, "one(1, 3)", 20);
        });
        edge(3, "Without FAULT all of it comes", () -> {
            // It comes to what is now, not to what was thought of or told before.
            JealousByCalendar x = told("c09000;c09007;");
            does(x, "use(0)", "run(0, 83, 0)", "lots(20, 1)");
            due("a FAULT", tell(x, "d3;c00000;u00;"), -2010);
            due("all", tell(x, "d7;u01;"), 2);
            due(x, "count(1)", 7);
            due(x, "count(0)", 2);
            due(x, "count(2)", 3);
            due(x, "one(0, 1)", 70);
            due(x, "cause(1, 3)", 7);
        });
        edge(3, "how many STATEMENTS", () -> {
            answers("", "d0;", 1);
            answers("", "d0;".repeat(32), 32);
            answers("", "w00;p0000;c00000;u00;d0;", 5);
        });
    }
}
