import java.util.ArrayList;
import java.util.List;
import java.util.function.Supplier;

/**
 * The REFUSALS of every call that takes a number: each number at both its ends, alone and together with every other,
 * on the first DAY, in the middle and on the last, with nothing there yet and with no room left.
 */
final class EdgesOfRefusals extends Edges {
    /** A number that a call takes: the least and the greatest, and what is answered below and above. */
    private record Number(long least, long greatest, int below, int above) { }

    /** A call: its promise, the sentence of its refusals, the order in which it tells them, what the answer is less of. */
    private record Call(int promise, String name, String sentence, String order, long less, Number... numbers) { }

    private static final Number WHO = new Number(0, 1, -1, -1);
    private static final Number WEEKDAY = new Number(0, 6, -1, -1);
    private static final Number KIND = new Number(0, 5, -2, -2);
    private static final Number FIGURE = new Number(0, 9, -4, -6);
    // Of a DAY n the least is DAY, of a CAUSE the greatest is the last: known by the state alone.
    private static final Number DAY = new Number(-1, 83, -4, -6);
    private static final Number CAUSE = new Number(0, -1, -1, -1);
    // What set() sets: of a PURSE this, of a WEEKDAY 6.
    private static final Number SET = new Number(0, 999, -4, -6);

    private static Number what(int most) {
        return new Number(0, most, -2, -2);
    }

    private static Number number(long least, long greatest) {
        return new Number(least, greatest, -4, -6);
    }

    private static final Call[] CALLS = {
        new Call(2, "feed", "-4; -6 (255; 96, too).", "-4 -6", 0, number(0, 255)),
        new Call(4, "one", "-1; -2.", "-1 -2", 0, WHO, what(4)),
        new Call(5, "cause", "-1; -2.", "-1 -2", 0, CAUSE, what(8)),
        new Call(6, "set", "-1; -2; -4; -6 (6; 999).", "-1 -2 -4 -6", 0, WHO, what(1), SET),
        new Call(7, "add", "-1 FOR; -2 KIND; -4 either; -6 (FIGURE 9, FOUND 83; 12 there are).", "-1 -2 -4 -6", 0, KIND, FIGURE, WHO, number(0, 83)),
        new Call(8, "use", "-1; -3 it can not be.", "-1 -3", 0, CAUSE),
        new Call(11, "needed", "-1; -4; -6.", "-1 -4 -6", 0, WHO, DAY),
        new Call(12, "byHand", "-1; -4; -6; -2.", "-1 -4 -6 -2", 0, WHO, DAY, what(1)),
        new Call(13, "laid", "-1; -4 (i below -1, too); -6.", "-1 -4 -6", 0, WHO, DAY, number(-1, MOST)),
        new Call(14, "wasted", "-1; -4; -6.", "-1 -4 -6", 0, WHO, DAY),
        new Call(15, "worth", "-1; -3 USED; -4; -6.", "-1 -3 -4 -6", 0, CAUSE, DAY),
        new Call(16, "notAll", "-1; -4; -6.", "-1 -4 -6", 0, WHO, DAY),
        new Call(17, "settled", "-1 either; -4; -6.", "-1 -4 -6", FAR, WHO, WEEKDAY, DAY),
        new Call(18, "bestWeekday", "-1; -4; -6.", "-1 -4 -6", 0, WHO, DAY),
        new Call(19, "neither", "-4; -6.", "-4 -6", 0, DAY),
        new Call(20, "turns", "-2.", "-2", FAR, what(1)),
        new Call(21, "months", "-1; -4 7; -6 31; -2.", "-1 -4 -6 -2", 0, WEEKDAY, number(7, 31), what(2)),
        new Call(22, "meant", "-1; -2;", "-1 -2 -3", LONG, WHO, what(2)),
        new Call(23, "law", "-2; -3 one above 83.", "-2 -3", 0, what(1)),
        new Call(24, "friends", "-2; -3 one above 6.", "-2 -3", 0, what(1)),
        new Call(25, "chance", "-4 (t below 2, n below 0); -6 (20; 12); -2.", "-4 -6 -2", LONG, number(2, 20), number(0, 12), what(1)),
        new Call(26, "keep", "-4; -6 20.", "-4 -6", 0, number(2, 20)),
        new Call(27, "run", "-1; -4; -6; -2.", "-1 -4 -6 -2", 0, WHO, DAY, what(2)),
        new Call(28, "gift", "-1; -4 either; -6 either (9).", "-1 -4 -6", 0, WHO, FIGURE, DAY),
        new Call(29, "when", "-1; -2; -4 either; -6 either.", "-1 -2 -4 -6", 0, WHO, KIND, FIGURE, DAY),
        new Call(30, "changed", "-4; -6.", "-4 -6", 0, DAY),
        new Call(31, "alike", "-2.", "-2", 0, what(1)),
        new Call(32, "spare", "-4; -6; -2.", "-4 -6 -2", 0, DAY, what(1)),
        new Call(33, "over", "-2.", "-2", 0, what(1)),
        new Call(34, "streak", "-1; -4; -6; -2.", "-1 -4 -6 -2", 0, WHO, DAY, what(1)),
        new Call(35, "quarrel", "-4; -6; -2.", "-4 -6 -2", 0, DAY, what(1)),
        new Call(36, "swapped", "-4; -6.", "-4 -6", FAR, DAY),
        new Call(37, "usedOn", "-1; -4; -6.", "-1 -4 -6", 0, WHO, DAY),
        new Call(38, "delay", "-1; -4; -6.", "-1 -4 -6", 0, WHO, DAY),
        new Call(39, "need", "-1; -4; -6.", "-1 -4 -6", 0, WHO, DAY),
        new Call(40, "loss", "-4; -6; -2.", "-4 -6 -2", 0, DAY, what(1)),
        new Call(41, "heavyDay", "-4; -6; -2.", "-4 -6 -2", 0, DAY, what(1)),
        new Call(42, "row", "-4; -6 (99; 12, too).", "-4 -6", 0, number(0, 99)),
        new Call(43, "judge", "-1 (it stays).", "-1", 0, WHO),
        new Call(45, "lots", "-4; -6 20.", "-4 -6", 0, number(1, 20), number(LEAST, MOST)),
    };

    static void look() {
        for (Call call : CALLS) {
            edge(call.promise, call.sentence, () -> alone(call));
            edge(call.promise, call.sentence, () -> together(call));
        }
        edge(48, "the first that fits in the order in which it tells them; nothing changes but how many there were", EdgesOfRefusals::counted);
        edge(48, "-1 NOBODY: no such CAUSE, one of the TWO, WEEKDAY.", () -> {
            refused(EdgesOfRefusals::middle, "cause(5, 0)", -1);
            refused(EdgesOfRefusals::middle, "one(2, 0)", -1);
            refused(EdgesOfRefusals::middle, "months(7, 7, 0)", -1);
        });
        edge(48, "-2 OTHER: what, KIND.", () -> {
            refused(EdgesOfRefusals::middle, "one(0, 5)", -2);
            refused(EdgesOfRefusals::middle, "add(6, 0, 0, 0)", -2);
        });
        edge(48, "-3 STATE: it is not as told.", () -> {
            refused(EdgesOfRefusals::middle, "use(0)", -3);
            refused(JealousByCalendar::new, "restore()", -3);
            refused(JealousByCalendar::new, "back()", -3);
        });
        edge(48, "-4 BELOW: a number below the least.", () -> refused(EdgesOfRefusals::middle, "row(-1)", -4));
        edge(48, "-6 ROOM: a number above the greatest, no room.", () -> {
            refused(EdgesOfRefusals::middle, "row(100)", -6);
            refused(EdgesOfRefusals::full, "row(0)", -6);
            refused(EdgesOfRefusals::full, "feed(0)", -6);
            refused(EdgesOfRefusals::full, "add(0, 0, 0, 0)", -6);
            refused(EdgesOfRefusals::last, "end()", -6);
        });
        edge(17, "Of settled(), turns(), swapped() 1000000000 less them (-1 as 1000000001), of longs 4000000000000000000 less them (-1 as 4000000000000000001).", () -> {
            refused(EdgesOfRefusals::middle, "settled(2, 0, 83)", 1000000001L, -1);
            refused(EdgesOfRefusals::middle, "settled(0, 0, 8)", 1000000004L, -4);
            refused(EdgesOfRefusals::middle, "turns(2)", 1000000002L, -2);
            refused(EdgesOfRefusals::middle, "swapped(84)", 1000000006L, -6);
            refused(EdgesOfRefusals::middle, "meant(2, 0)", 4000000000000000001L, -1);
            refused(EdgesOfRefusals::middle, "meant(0, 3)", 4000000000000000002L, -2);
            refused(EdgesOfRefusals::middle, "chance(1, 0, 0)", 4000000000000000004L, -4);
            refused(EdgesOfRefusals::middle, "chance(21, 0, 0)", 4000000000000000006L, -6);
        });
        edge(11, "(n: -4 below DAY, -6 above 83.)", () -> {
            refused(EdgesOfRefusals::middle, "needed(0, 8)", -4);
            taken(middle(), "needed(0, 9)");
            taken(middle(), "needed(0, 83)");
            refused(EdgesOfRefusals::middle, "needed(0, 84)", -6);
            refused(EdgesOfRefusals::last, "needed(0, 82)", -4);
            taken(last(), "needed(0, 83)");
            refused(EdgesOfRefusals::last, "needed(0, 84)", -6);
        });
    }

    // ---- states, each with the ROW as law(), friends() and meant() take it

    /** DAY 9: five CAUSES, two of them USED, letters, a ROW, an IMAGE, something to be TAKEN BACK, some REFUSALS. */
    private static JealousByCalendar middle() {
        JealousByCalendar x = told("w01;w14;p0033;p1044;c09000;c19101;c40008;c59100;c39008;d4;u03;d4;");
        does(x, "image()", "use(4)", "end()", "feed(100)", "feed(49)", "feed(59)", "row(1)");
        ask(x, "use(7)");
        ask(x, "feed(-1)");
        return x;
    }

    /** DAY 3, no room: twelve CAUSES, twelve numbers, 96 letters, eight to be TAKEN BACK. */
    private static JealousByCalendar full() {
        JealousByCalendar x = told(causes(12, 5, 9, 0, 0, 1) + "w06;w16;");
        does(x, "image()");
        for (int i = 0; i < 9; i++) does(x, "end()");
        for (int i = 0; i < 96; i++) x.feed("d0;".charAt(i % 3));
        for (int i = 0; i < 12; i++) x.row(6);
        return x;
    }

    /** DAY 83, twelve CAUSES, all purses full. */
    private static JealousByCalendar last() {
        JealousByCalendar x = told("w06;" + causes(12, 3, 9, 0, 83, 0) + days(82) + "p0999;p1999;");
        does(x, "end()");
        return x;
    }

    private static List<Supplier<JealousByCalendar>> states() {
        List<Supplier<JealousByCalendar>> states = new ArrayList<>();
        states.add(JealousByCalendar::new);
        states.add(EdgesOfRefusals::middle);
        states.add(EdgesOfRefusals::full);
        states.add(EdgesOfRefusals::last);
        return states;
    }

    // ---- each number alone

    private static void alone(Call call) {
        for (Supplier<JealousByCalendar> state : states()) {
            JealousByCalendar x = state.get();
            for (int i = 0; i < call.numbers.length; i++) {
                Number number = here(call.numbers[i], x);
                // Where there is no CAUSE, none can be asked for.
                if (hasNone(call, x) && call.numbers[i] != CAUSE) continue;
                end(state, call, i, number.least - 1, number.below);
                end(state, call, i, LEAST, number.below);
                end(state, call, i, number.greatest + 1, number.above);
                end(state, call, i, MOST, number.above);
                if (takes(call, x)) {
                    taken(state.get(), text(call, x, i, number.least));
                    taken(state.get(), text(call, x, i, number.greatest));
                }
            }
        }
    }

    private static void end(Supplier<JealousByCalendar> state, Call call, int place, long value, int code) {
        JealousByCalendar x = state.get();
        Number number = here(call.numbers[place], x);
        boolean isOut = value < number.least || value > number.greatest;
        if (!isOut || value != (int) value) return;
        refused(state, text(call, x, place, value), less(call, code), code);
    }

    private static long less(Call call, int code) {
        return call.less == 0 ? code : call.less - code;
    }

    private static boolean hasNone(Call call, JealousByCalendar x) {
        return call.numbers[0] == CAUSE && x.count(0) == 0;
    }

    /** Whether the call is taken in this state if its numbers are in range. */
    private static boolean takes(Call call, JealousByCalendar x) {
        switch (call.name) {
            case "feed": return x.count(4) < 96;
            case "row": return x.count(5) < 12;
            case "add": return x.count(0) < 12;
            case "cause": return x.count(0) > 0;
            // Whether these are taken hangs on the one CAUSE, and on the ROW: EdgesOfState, EdgesOfPlans, EdgesOfNumbers.
            case "use": case "worth": case "meant": return false;
            default: return true;
        }
    }

    /** What the number is in this state. */
    private static Number here(Number number, JealousByCalendar x) {
        if (number == DAY) return new Number(x.count(1), 83, -4, -6);
        if (number == CAUSE) return new Number(0, x.count(0) - 1, -1, -1);
        return number;
    }

    /** The call with this number at the place, and at the others what is in range. */
    private static String text(Call call, JealousByCalendar x, int place, long value) {
        StringBuilder text = new StringBuilder(call.name).append('(');
        for (int i = 0; i < call.numbers.length; i++) {
            text.append(i == 0 ? "" : ", ").append(i == place ? value : fine(call, i, x));
        }
        return text.append(')').toString();
    }

    private static long fine(Call call, int place, JealousByCalendar x) {
        Number number = here(call.numbers[place], x);
        if (call.numbers[place] == SET) return 6;
        // Of the CAUSES one that is not USED.
        return call.numbers[place] == CAUSE ? Math.max(0, Integer.numberOfTrailingZeros(~x.count(2))) : number.greatest;
    }

    // ---- all numbers together

    private static void together(Call call) {
        for (Supplier<JealousByCalendar> state : states()) {
            JealousByCalendar x = state.get();
            List<long[]> all = new ArrayList<>();
            combine(call, x, new long[call.numbers.length], 0, all);
            int asked = 0;
            for (long[] values : all) {
                int code = codeOf(call, x, values);
                if (code == 0) continue;
                StringBuilder text = new StringBuilder(call.name).append('(');
                for (int i = 0; i < values.length; i++) text.append(i == 0 ? "" : ", ").append(values[i]);
                due(x, text.append(')').toString(), less(call, code));
                if (++asked % 200 == 0) x = state.get();
            }
        }
    }

    private static void combine(Call call, JealousByCalendar x, long[] values, int place, List<long[]> all) {
        if (place == values.length) {
            all.add(values.clone());
            return;
        }
        Number number = here(call.numbers[place], x);
        for (long value : new long[] {LEAST, number.least - 1, number.least, number.greatest, number.greatest + 1, MOST}) {
            values[place] = value;
            if (value == (int) value) combine(call, x, values, place + 1, all);
        }
    }

    /** The first REFUSAL in the order of the promise that fits one of the numbers; 0: none. */
    private static int codeOf(Call call, JealousByCalendar x, long[] values) {
        for (String told : call.order.split(" ")) {
            int code = Integer.parseInt(told);
            for (int i = 0; i < values.length; i++) {
                Number number = here(call.numbers[i], x);
                if (values[i] < number.least && number.below == code || values[i] > number.greatest && number.above == code) return code;
            }
            if (code == -6 && call.name.equals("set") && values[1] == 0 && values[2] > 6) return code;
            // A CAUSE that is in range and USED comes here in the order.
            if (code == -3 && call.name.equals("worth") && (x.count(2) >> values[0] & 1) != 0) return code;
        }
        return 0;
    }

    /** What is refused counts once under its own number, whatever the answer looks like. */
    private static void counted() {
        for (Call call : CALLS) {
            for (int i = 0; i < call.numbers.length; i++) {
                JealousByCalendar x = middle();
                Number number = here(call.numbers[i], x);
                if (number.greatest == MOST && number.least == LEAST) continue;
                int before = x.count(10 - number.below);
                int all = refusals(x);
                ask(x, text(call, x, i, number.least - 1));
                ask(x, text(call, x, i, number.least - 1));
                due(call.name + " counts", x.count(10 - number.below), before + 2);
                due(call.name + " counts nothing else", refusals(x), all + 2);
            }
        }
    }
}
