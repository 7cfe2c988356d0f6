/** Two who agreed to be jealous, each on a weekday of his own, with causes that the other found. */
public final class JealousByCalendar {
    private static final int NONE = -9;
    private static final int NOBODY = -1;
    private static final int OTHER = -2;
    private static final int STATE = -3;
    private static final int BELOW = -4;
    private static final int ROOM = -6;

    private static final int HE = 0;
    private static final int SHE = 1;

    private static final int GLOVE = 1;
    private static final int LAUGH = 2;
    private static final int LENT = 3;
    private static final int REAL = 4;
    private static final int NOTE = 5;
    private static final int KINDS = 6;

    private static final int LAST_DAY = 83;
    private static final int WEEK = 7;
    private static final int MOST_FIGURE = 9;
    private static final int MOST_CAUSES = 12;
    private static final int MOST_NEEDED = 12;
    private static final int MOST_LETTERS = 96;
    private static final int MOST_NUMBERS = 12;
    private static final int MOST_NUMBER = 99;
    private static final int MOST_BACK = 8;
    private static final int MOST_MEANT = 8;
    private static final int FIRST_NEEDED = 8;
    private static final int FULL_PURSE = 999;
    private static final int FINE = 3;
    private static final int DAY_VALUE = 1000;
    private static final int ALIKE_COSTS = 10;

    private final Affair now = new Affair();
    private final Affair mind = new Affair();
    private final Affair picture = new Affair();
    private boolean hasPicture;
    private final Affair[] past = new Affair[MOST_BACK];
    private int pastCount;
    private final int[] letters = new int[MOST_LETTERS];
    private int letterCount;
    private final int[] numbers = new int[MOST_NUMBERS];
    private int numberCount;
    private final int[] refusals = new int[1 - ROOM];
    private final Plan his = new Plan();
    private final Plan hers = new Plan();
    private final int[] hisSettled = new int[WEEK];
    private final int[] hersSettled = new int[WEEK];
    private final long[] ways = new long[1 << MOST_MEANT];
    private final Course course = new Course();

    public JealousByCalendar() {
        for (int i = 0; i < MOST_BACK; i++) {
            past[i] = new Affair();
        }
    }

    // ---- I: what is, and what changes it

    public int feed(int letter) {
        if (letter < 0) {
            return refuse(BELOW);
        }
        if (letter > 255 || letterCount >= MOST_LETTERS) {
            return refuse(ROOM);
        }
        letters[letterCount] = letter;
        letterCount++;
        return letterCount;
    }

    public int marriage() {
        int place = firstMisplaced();
        int answer = place >= 0 ? -1000 - place : tellStatements();
        letterCount = 0;
        if (answer > 0) {
            now.copyFrom(mind);
            pastCount = 0;
        }
        return answer;
    }

    public int one(int who, int what) {
        if (isNobody(who)) {
            return refuse(NOBODY);
        }
        Person person = now.person(who);
        switch (what) {
            case 0: return person.weekday;
            case 1: return person.purse;
            case 2: return person.borrowed;
            case 3: return person.owed;
            case 4: return person.jealous ? 1 : 0;
            default: return refuse(OTHER);
        }
    }

    public int cause(int cause, int what) {
        Cause told = now.causeAt(cause);
        if (told == null) {
            return refuse(NOBODY);
        }
        switch (what) {
            case 0: return told.kind;
            case 1: return told.figure;
            case 2: return told.whose;
            case 3: return told.found;
            case 4: return told.used ? 1 : 0;
            case 5: return told.lasting;
            case 6: return told.weight;
            case 7: return !told.used && told.lastDay() < now.day ? 1 : 0;
            case 8: return now.isGood(told, now.day) ? 1 : 0;
            default: return refuse(OTHER);
        }
    }

    public int set(int who, int what, int v) {
        if (isNobody(who)) {
            return refuse(NOBODY);
        }
        if (what != 0 && what != 1) {
            return refuse(OTHER);
        }
        if (v < 0) {
            return refuse(BELOW);
        }
        if (v > (what == 0 ? WEEK - 1 : FULL_PURSE)) {
            return refuse(ROOM);
        }
        pastCount = 0;
        Person person = now.person(who);
        int was = what == 0 ? person.weekday : person.purse;
        if (what == 0) {
            person.weekday = v;
        } else {
            person.purse = v;
        }
        return was;
    }

    public int add(int kind, int figure, int who, int found) {
        if (isNobody(who)) {
            return refuse(NOBODY);
        }
        if (isNoKind(kind)) {
            return refuse(OTHER);
        }
        if (figure < 0 || found < 0) {
            return refuse(BELOW);
        }
        if (figure > MOST_FIGURE || found > LAST_DAY || now.count >= MOST_CAUSES) {
            return refuse(ROOM);
        }
        pastCount = 0;
        now.bring(kind, figure, who, found);
        return now.count - 1;
    }

    public int use(int cause) {
        Cause used = now.causeAt(cause);
        if (used == null) {
            return refuse(NOBODY);
        }
        if (!now.isUsable(used)) {
            return refuse(STATE);
        }
        remember();
        return now.spend(used);
    }

    public int end() {
        if (now.day >= LAST_DAY) {
            return refuse(ROOM);
        }
        remember();
        now.endDay();
        return now.day;
    }

    public int back() {
        int latest = pastCount - 1;
        if (latest < 0 || latest >= MOST_BACK) {
            return refuse(STATE);
        }
        now.copyFrom(past[latest]);
        pastCount = latest;
        return now.day;
    }

    public int image() {
        picture.copyFrom(now);
        hasPicture = true;
        return now.day;
    }

    public int restore() {
        if (!hasPicture) {
            return refuse(STATE);
        }
        now.copyFrom(picture);
        pastCount = 0;
        return now.day;
    }

    public int count(int what) {
        switch (what) {
            case 0: return now.count;
            case 1: return now.day;
            case 2: return now.used();
            case 3: return now.weightUnused();
            case 4: return letterCount;
            case 5: return numberCount;
            case 6: return pastCount;
            default: break;
        }
        int code = what - 10;
        return code >= 1 && code < refusals.length ? refusals[code] : NONE;
    }

    // ---- the row

    public int row(int v) {
        if (v < 0) {
            return refuse(BELOW);
        }
        if (v > MOST_NUMBER || numberCount >= MOST_NUMBERS) {
            return refuse(ROOM);
        }
        numbers[numberCount] = v;
        numberCount++;
        return numberCount;
    }

    public int clear() {
        int had = numberCount;
        numberCount = 0;
        return had;
    }

    public int judge(int who) {
        if (isNobody(who)) {
            return refuse(NOBODY);
        }
        int wrong = firstMistold(who);
        numberCount = 0;
        return wrong;
    }

    public long meant(int who, int what) {
        if (isNobody(who)) {
            return refuseLong(NOBODY);
        }
        if (what < 0 || what > 2) {
            return refuseLong(OTHER);
        }
        if (!isRowOfDays(now.person(who).weekday)) {
            return refuseLong(STATE);
        }
        Plan plan = planOf(who);
        plan.takeDays(numbers, numberCount);
        plan.takeCauses(now, now.unusedFor(who));
        long all = plan.waysOf(plan.all, ways);
        return what == 0 ? all : meantCauses(plan, all, what == 1);
    }

    public int law(int what) {
        if (what != 0 && what != 1) {
            return refuse(OTHER);
        }
        if (mostInRow() > LAST_DAY) {
            return refuse(STATE);
        }
        int many = 0;
        int greatest = NONE;
        for (int k = 1; k <= 20; k++) {
            for (int s = 0; s < k; s++) {
                if (isRowByLaw(k, s)) {
                    many++;
                    greatest = 100 * k + s;
                }
            }
        }
        return what == 0 ? many : greatest;
    }

    public int friends(int what) {
        if (what != 0 && what != 1) {
            return refuse(OTHER);
        }
        if (mostInRow() > WEEK - 1) {
            return refuse(STATE);
        }
        return what == 0 ? fewestFriends() : busiestWeekday();
    }

    // ---- II: by causes not used, in mind

    public int needed(int who, int n) {
        int fault = faultOfOneAndDay(who, n);
        if (fault != 0) {
            return refuse(fault);
        }
        return prepared(now, who, n).days;
    }

    public int byHand(int who, int n, int what) {
        int fault = faultOfOneDayWhat(who, n, what, 1);
        if (fault != 0) {
            return refuse(fault);
        }
        Plan plan = prepared(now, who, n);
        plan.layByHand();
        return what == 0 ? plan.withoutByHand() : plan.firstWithoutByHand();
    }

    public int laid(int who, int n, int i) {
        if (isNobody(who)) {
            return refuse(NOBODY);
        }
        if (n < now.day || i < -1) {
            return refuse(BELOW);
        }
        if (n > LAST_DAY) {
            return refuse(ROOM);
        }
        Plan plan = prepared(now, who, n);
        return i < 0 ? plan.value() : plan.firstWay(i);
    }

    public int wasted(int who, int n) {
        int fault = faultOfOneAndDay(who, n);
        if (fault != 0) {
            return refuse(fault);
        }
        Plan plan = prepared(now, who, n);
        int value = plan.value();
        int bits = 0;
        for (int c = 0; c < MOST_CAUSES; c++) {
            int bit = 1 << c;
            if ((plan.all & bit) != 0 && plan.valueWithout(bit) == value) {
                bits |= bit;
            }
        }
        return bits;
    }

    public int worth(int cause, int n) {
        Cause told = now.causeAt(cause);
        if (told == null) {
            return refuse(NOBODY);
        }
        if (told.used) {
            return refuse(STATE);
        }
        int fault = faultOfDay(n);
        if (fault != 0) {
            return refuse(fault);
        }
        Plan plan = prepared(now, told.whose, n);
        return plan.value() - plan.valueWithout(1 << cause);
    }

    public int notAll(int who, int n) {
        int fault = faultOfOneAndDay(who, n);
        if (fault != 0) {
            return refuse(fault);
        }
        return prepared(now, who, n).shortDays();
    }

    public int settled(int who, int weekday, int n) {
        if (isNobody(who) || isNoWeekday(weekday)) {
            return refuseFar(NOBODY);
        }
        int fault = faultOfDay(n);
        if (fault != 0) {
            return refuseFar(fault);
        }
        return settledOn(who, weekday, n);
    }

    public int bestWeekday(int who, int n) {
        int fault = faultOfOneAndDay(who, n);
        if (fault != 0) {
            return refuse(fault);
        }
        int best = 0;
        int most = settledOn(who, 0, n);
        for (int w = 1; w < WEEK; w++) {
            int here = settledOn(who, w, n);
            if (here > most) {
                most = here;
                best = w;
            }
        }
        return best;
    }

    public int neither(int n) {
        int fault = faultOfDay(n);
        if (fault != 0) {
            return refuse(fault);
        }
        for (int w = 0; w < WEEK; w++) {
            hisSettled[w] = settledOn(HE, w, n);
            hersSettled[w] = settledOn(SHE, w, n);
        }
        for (int a = 0; a < WEEK; a++) {
            for (int b = 0; b < WEEK; b++) {
                if (isBestChoice(hisSettled, a, b) && isBestChoice(hersSettled, b, a)) {
                    return 10 * a + b;
                }
            }
        }
        return NONE;
    }

    public int turns(int what) {
        if (what != 0 && what != 1) {
            return refuseFar(OTHER);
        }
        his.takeCauses(now, now.unused());
        int first = NONE;
        int most = 0;
        for (int c = 0; c < MOST_CAUSES; c++) {
            if ((his.all & 1 << c) == 0) {
                continue;
            }
            int lead = his.leadByTaking(his.byNumber[c]);
            if (first == NONE || lead > most) {
                most = lead;
                first = c;
            }
        }
        return what == 0 ? most : first;
    }

    public int months(int weekday, int m, int what) {
        if (isNoWeekday(weekday)) {
            return refuse(NOBODY);
        }
        if (m < 7) {
            return refuse(BELOW);
        }
        if (m > 31) {
            return refuse(ROOM);
        }
        if (what < 0 || what > 2) {
            return refuse(OTHER);
        }
        int many = 0;
        int most = -1;
        int first = 0;
        for (int month = 0; (month + 1) * m <= LAST_DAY + 1; month++) {
            int here = weekdaysIn(month * m, m, weekday);
            if (here > most) {
                most = here;
                first = month;
                many = 0;
            }
            if (here == most) {
                many++;
            }
        }
        return what == 0 ? many : what == 1 ? most : first;
    }

    public long chance(int t, int n, int part) {
        if (t < 2 || n < 0) {
            return refuseLong(BELOW);
        }
        if (t > 20 || n > 12) {
            return refuseLong(ROOM);
        }
        if (part != 0 && part != 1) {
            return refuseLong(OTHER);
        }
        // t and t - 1 have no divisor in common, so the fraction stands in lowest terms already.
        long below = power(t, n);
        return part == 1 ? below : below - power(t - 1, n);
    }

    public int keep(int t) {
        if (t < 2) {
            return refuse(BELOW);
        }
        if (t > 20) {
            return refuse(ROOM);
        }
        for (int n = 0; n <= 12; n++) {
            if (2 * power(t - 1, n) <= power(t, n)) {
                return n;
            }
        }
        return NONE;
    }

    public int run(int who, int n, int what) {
        int fault = faultOfOneDayWhat(who, n, what, 2);
        if (fault != 0) {
            return refuse(fault);
        }
        mind.copyFrom(now);
        mind.liveTo(n);
        Person person = mind.person(who);
        return what == 0 ? person.purse : what == 1 ? person.borrowed : person.owed;
    }

    public int lots(int n, int z) {
        if (n < 1) {
            return refuse(BELOW);
        }
        if (n > 20) {
            return refuse(ROOM);
        }
        int seed = z;
        int borrowed = 0;
        for (int year = 0; year < n; year++) {
            mind.copyFrom(now);
            for (int c = 0; c < MOST_CAUSES; c++) {
                Cause cause = mind.causeAt(c);
                if (cause != null && !cause.used) {
                    seed = seed * 1103515245 + 12345;
                    cause.found = ((seed & 0x7fffffff) >> 16) % (LAST_DAY + 1);
                }
            }
            mind.liveTo(LAST_DAY);
            borrowed += mind.he.borrowed + mind.she.borrowed;
        }
        return borrowed;
    }

    // ---- III: what would be better, what could go

    public int gift(int who, int figure, int n) {
        if (isNobody(who)) {
            return refuse(NOBODY);
        }
        if (figure < 0 || n < now.day) {
            return refuse(BELOW);
        }
        if (figure > MOST_FIGURE || n > LAST_DAY) {
            return refuse(ROOM);
        }
        int most = prepared(now, who, n).value();
        int best = NONE;
        for (int kind = 0; kind < KINDS; kind++) {
            int value = valueWithOneMore(who, kind, figure, now.day, n);
            if (value > most) {
                most = value;
                best = kind;
            }
        }
        return best;
    }

    public int when(int who, int kind, int figure, int n) {
        if (isNobody(who)) {
            return refuse(NOBODY);
        }
        if (isNoKind(kind)) {
            return refuse(OTHER);
        }
        if (figure < 0 || n < now.day) {
            return refuse(BELOW);
        }
        if (figure > MOST_FIGURE || n > LAST_DAY) {
            return refuse(ROOM);
        }
        int most = prepared(now, who, n).value();
        int best = NONE;
        for (int found = now.day; found <= n; found++) {
            int value = valueWithOneMore(who, kind, figure, found, n);
            if (value > most) {
                most = value;
                best = found;
            }
        }
        return best;
    }

    public int changed(int n) {
        int fault = faultOfDay(n);
        if (fault != 0) {
            return refuse(fault);
        }
        int most = valueOfBoth(now, n);
        int best = NONE;
        mind.copyFrom(now);
        for (int c = 0; c < MOST_CAUSES; c++) {
            Cause cause = mind.causeAt(c);
            if (cause == null || cause.used) {
                continue;
            }
            int owner = cause.whose;
            cause.whose = otherThan(owner);
            int value = valueOfBoth(mind, n);
            cause.whose = owner;
            if (value > most) {
                most = value;
                best = c;
            }
        }
        return best;
    }

    public int alike(int what) {
        if (what != 0 && what != 1) {
            return refuse(OTHER);
        }
        his.takeCauses(now, now.unused());
        int total = his.weightOf(his.all);
        int heap = evenHeap(total);
        return what == 1 ? heap : Math.abs(total - 2 * his.weightOf(heap));
    }

    public int spare(int n, int what) {
        int fault = faultOfDayWhat(n, what);
        if (fault != 0) {
            return refuse(fault);
        }
        valueOfBoth(now, n);
        int bits = now.unused() & ~his.kept & ~hers.kept;
        return what == 0 ? bits : Integer.bitCount(bits);
    }

    public int over(int what) {
        if (what != 0 && what != 1) {
            return refuse(OTHER);
        }
        int last = LAST_DAY;
        while (last >= now.day && !now.hasGoodOn(last)) {
            last--;
        }
        if (what == 0) {
            return last + 1;
        }
        return last < now.day ? NONE : last;
    }

    public int streak(int who, int n, int what) {
        int fault = faultOfOneDayWhat(who, n, what, 1);
        if (fault != 0) {
            return refuse(fault);
        }
        Plan plan = prepared(now, who, n);
        plan.layByHand();
        return plan.longestByHand(what == 0);
    }

    public int quarrel(int n, int what) {
        int fault = faultOfDayWhat(n, what);
        if (fault != 0) {
            return refuse(fault);
        }
        prepared(now, HE, n).layByHand();
        prepared(now, SHE, n).layByHand();
        int many = 0;
        int first = NONE;
        for (int day = n; day >= now.day; day--) {
            if (his.hasByHandOn(day) && hers.hasByHandOn(day)) {
                many++;
                first = day;
            }
        }
        return what == 0 ? many : first;
    }

    public int swapped(int n) {
        int fault = faultOfDay(n);
        if (fault != 0) {
            return refuseFar(fault);
        }
        mind.copyFrom(now);
        mind.he.weekday = now.she.weekday;
        mind.she.weekday = now.he.weekday;
        return valueOfBoth(mind, n) - valueOfBoth(now, n);
    }

    // ---- IV: by a run from now

    public int usedOn(int who, int day) {
        int fault = faultOfOneAndDay(who, day);
        if (fault != 0) {
            return refuse(fault);
        }
        mind.copyFrom(now);
        mind.liveTo(day);
        int used = mind.atHand(who);
        return used < 0 ? NONE : used;
    }

    public int delay(int who, int n) {
        int fault = faultOfOneAndDay(who, n);
        if (fault != 0) {
            return refuse(fault);
        }
        int value = prepared(now, who, n).value();
        for (int k = n - now.day; k > 0; k--) {
            mind.copyFrom(now);
            mind.findLater(who, k);
            if (prepared(mind, who, n).value() >= value) {
                return k;
            }
        }
        return 0;
    }

    public int need(int who, int n) {
        int fault = faultOfOneAndDay(who, n);
        if (fault != 0) {
            return refuse(fault);
        }
        mind.copyFrom(now);
        course.follow(mind, n);
        int theirs = now.person(otherThan(who)).purse;
        for (int purse = 0; purse <= FULL_PURSE; purse++) {
            if (course.isCoveredBy(who, purse, theirs)) {
                return purse;
            }
        }
        return NONE;
    }

    public int loss(int n, int what) {
        int fault = faultOfDayWhat(n, what);
        if (fault != 0) {
            return refuse(fault);
        }
        prepared(now, HE, n);
        prepared(now, SHE, n);
        return what == 0 ? worstLoss() : worstLossOfTwo();
    }

    public int heavyDay(int n, int what) {
        int fault = faultOfDayWhat(n, what);
        if (fault != 0) {
            return refuse(fault);
        }
        mind.copyFrom(now);
        int most = 0;
        int heaviest = NONE;
        for (int day = now.day; day <= n; day++) {
            int weight = mind.liveDay(HE) + mind.liveDay(SHE);
            if (weight > most) {
                most = weight;
                heaviest = day;
            }
            mind.endDay();
        }
        return what == 0 ? heaviest : most;
    }

    // ---- refusals

    private int refuse(int code) {
        int place = -code;
        if (place >= 0 && place < refusals.length) {
            refusals[place]++;
        }
        return code;
    }

    private int refuseFar(int code) {
        return 1000000000 - refuse(code);
    }

    private long refuseLong(int code) {
        return 4000000000000000000L - refuse(code);
    }

    private int faultOfDay(int n) {
        if (n < now.day) {
            return BELOW;
        }
        return n > LAST_DAY ? ROOM : 0;
    }

    private int faultOfOneAndDay(int who, int n) {
        return isNobody(who) ? NOBODY : faultOfDay(n);
    }

    private int faultOfDayWhat(int n, int what) {
        int fault = faultOfDay(n);
        if (fault != 0) {
            return fault;
        }
        return what != 0 && what != 1 ? OTHER : 0;
    }

    private int faultOfOneDayWhat(int who, int n, int what, int mostWhat) {
        int fault = faultOfOneAndDay(who, n);
        if (fault != 0) {
            return fault;
        }
        return what < 0 || what > mostWhat ? OTHER : 0;
    }

    private static boolean isNobody(int who) {
        return who != HE && who != SHE;
    }

    private static boolean isNoKind(int kind) {
        return kind < 0 || kind >= KINDS;
    }

    private static boolean isNoWeekday(int weekday) {
        return weekday < 0 || weekday >= WEEK;
    }

    private static int otherThan(int who) {
        return who == HE ? SHE : HE;
    }

    // ---- what can be taken back

    private void remember() {
        if (pastCount >= MOST_BACK) {
            Affair oldest = past[0];
            for (int i = 1; i < MOST_BACK; i++) {
                past[i - 1] = past[i];
            }
            past[MOST_BACK - 1] = oldest;
            pastCount = MOST_BACK - 1;
        }
        if (pastCount >= 0) {
            past[pastCount].copyFrom(now);
            pastCount++;
        }
    }

    // ---- a marriage told in letters

    /** The place of the first letter with which no marriage can go on, -1 if there is none. */
    private int firstMisplaced() {
        if (letterCount == 0) {
            return 0;
        }
        int start = 0;
        while (start < letterCount) {
            int digits = digitsBehind(letterAt(start));
            if (digits == 0) {
                return start;
            }
            int end = start + 1 + digits;
            for (int i = start + 1; i < end; i++) {
                if (!isDigit(letterAt(i))) {
                    return i;
                }
            }
            if (letterAt(end) != ';') {
                return end;
            }
            start = end + 1;
        }
        return -1;
    }

    /** In mind all statements come: how many there are, or the fault of the first that can not. */
    private int tellStatements() {
        mind.copyFrom(now);
        int statements = 0;
        int start = 0;
        while (start < letterCount) {
            if (!tellStatement(start)) {
                return -2000 - start;
            }
            statements++;
            start += digitsBehind(letterAt(start)) + 2;
        }
        return statements;
    }

    private boolean tellStatement(int start) {
        int first = figureAt(start + 1, 1);
        switch (letterAt(start)) {
            case 'w': return tellWeekday(first, figureAt(start + 2, 1));
            case 'p': return tellPurse(first, figureAt(start + 2, 3));
            case 'c': return tellCause(first, figureAt(start + 2, 1), figureAt(start + 3, 1), figureAt(start + 4, 2));
            case 'u': return tellUse(figureAt(start + 1, 2));
            case 'd': return tellDays(first);
            default: return false;
        }
    }

    private boolean tellWeekday(int who, int weekday) {
        if (isNobody(who) || isNoWeekday(weekday)) {
            return false;
        }
        mind.person(who).weekday = weekday;
        return true;
    }

    private boolean tellPurse(int who, int purse) {
        if (isNobody(who)) {
            return false;
        }
        mind.person(who).purse = purse;
        return true;
    }

    private boolean tellCause(int kind, int figure, int who, int found) {
        if (isNoKind(kind) || isNobody(who) || found > LAST_DAY || mind.count >= MOST_CAUSES) {
            return false;
        }
        mind.bring(kind, figure, who, found);
        return true;
    }

    private boolean tellUse(int number) {
        Cause cause = mind.causeAt(number);
        if (cause == null || !mind.isUsable(cause)) {
            return false;
        }
        mind.spend(cause);
        return true;
    }

    private boolean tellDays(int days) {
        if (mind.day + days > LAST_DAY) {
            return false;
        }
        for (int i = 0; i < days; i++) {
            mind.endDay();
        }
        return true;
    }

    private static int digitsBehind(int letter) {
        switch (letter) {
            case 'w': return 2;
            case 'p': return 4;
            case 'c': return 5;
            case 'u': return 2;
            case 'd': return 1;
            default: return 0;
        }
    }

    /** The letter there, -1 behind the end. */
    private int letterAt(int place) {
        return place >= 0 && place < letterCount && place < MOST_LETTERS ? letters[place] : -1;
    }

    private static boolean isDigit(int letter) {
        return letter >= '0' && letter <= '9';
    }

    private int figureAt(int place, int digits) {
        int figure = 0;
        for (int i = 0; i < digits; i++) {
            figure = 10 * figure + letterAt(place + i) - '0';
        }
        return figure;
    }

    // ---- plans

    private Plan planOf(int who) {
        return who == HE ? his : hers;
    }

    private Plan prepared(Affair affair, int who, int n) {
        return preparedOn(affair, who, affair.person(who).weekday, n);
    }

    private Plan preparedOn(Affair affair, int who, int weekday, int n) {
        Plan plan = planOf(who);
        plan.takeNeeded(affair, who, weekday, n);
        plan.takeCauses(affair, affair.unusedFor(who));
        return plan;
    }

    private int valueOfBoth(Affair affair, int n) {
        int value = prepared(affair, HE, n).value();
        return value + prepared(affair, SHE, n).value();
    }

    private int settledOn(int who, int weekday, int n) {
        Plan plan = preparedOn(now, who, weekday, n);
        int value = plan.value();
        int without = plan.days - value / DAY_VALUE;
        return value % DAY_VALUE - FINE * without;
    }

    private static boolean isBestChoice(int[] settled, int mine, int theirs) {
        int have = settledBeside(settled, mine, theirs);
        for (int w = 0; w < WEEK; w++) {
            if (settledBeside(settled, w, theirs) > have) {
                return false;
            }
        }
        return true;
    }

    private static int settledBeside(int[] settled, int mine, int theirs) {
        if (mine < 0 || mine >= settled.length) {
            return 0;
        }
        return settled[mine] - (mine == theirs ? ALIKE_COSTS : 0);
    }

    private int valueWithOneMore(int who, int kind, int figure, int found, int n) {
        if (now.count >= MOST_CAUSES) {
            return 0;
        }
        mind.copyFrom(now);
        mind.bring(kind, figure, who, found);
        return prepared(mind, who, n).value();
    }

    private int valueOfBothWithout(int bits) {
        return his.valueWithout(bits) + hers.valueWithout(bits);
    }

    private int worstLoss() {
        int unused = now.unused();
        int least = 0;
        int worst = NONE;
        for (int c = 0; c < MOST_CAUSES; c++) {
            if ((unused & 1 << c) == 0) {
                continue;
            }
            int value = valueOfBothWithout(1 << c);
            if (worst == NONE || value < least) {
                least = value;
                worst = c;
            }
        }
        return worst;
    }

    private int worstLossOfTwo() {
        int unused = now.unused();
        int least = 0;
        int worst = NONE;
        for (int a = 0; a < MOST_CAUSES; a++) {
            for (int b = a + 1; b < MOST_CAUSES; b++) {
                int two = 1 << a | 1 << b;
                if ((unused & two) != two) {
                    continue;
                }
                int value = valueOfBothWithout(two);
                if (worst == NONE || value < least) {
                    least = value;
                    worst = 100 * a + b;
                }
            }
        }
        return worst;
    }

    private int evenHeap(int total) {
        int first = his.all & -his.all;
        int best = 0;
        int least = total + 1;
        for (int heap = first; heap <= his.all && least > total % 2; heap++) {
            if ((heap & ~his.all) != 0 || (heap & first) != first) {
                continue;
            }
            int apart = Math.abs(total - 2 * his.weightOf(heap));
            if (apart < least) {
                least = apart;
                best = heap;
            }
        }
        return best;
    }

    // ---- by the row

    private int numberAt(int place) {
        return place >= 0 && place < numberCount && place < MOST_NUMBERS ? numbers[place] : -1;
    }

    private int mostInRow() {
        int most = -1;
        for (int i = 0; i < numberCount; i++) {
            most = Math.max(most, numberAt(i));
        }
        return most;
    }

    private boolean isRowOfDays(int weekday) {
        if (numberCount > MOST_MEANT) {
            return false;
        }
        int ahead = -1;
        for (int i = 0; i < numberCount; i++) {
            int day = numberAt(i);
            if (day <= ahead || day > LAST_DAY || day % WEEK != weekday) {
                return false;
            }
            ahead = day;
        }
        return true;
    }

    private long meantCauses(Plan plan, long all, boolean inAll) {
        if (all == 0) {
            return inAll ? plan.all : 0;
        }
        long bits = 0;
        for (int c = 0; c < MOST_CAUSES; c++) {
            int bit = 1 << c;
            if ((plan.all & bit) == 0) {
                continue;
            }
            long without = plan.waysOf(plan.all & ~bit, ways);
            if (inAll ? without == 0 : without != all) {
                bits |= bit;
            }
        }
        return bits;
    }

    private boolean isRowByLaw(int k, int s) {
        for (int i = 0; i < numberCount; i++) {
            int beyond = numberAt(i) - s;
            if (k < 1 || beyond < 0 || beyond % k != 0) {
                return false;
            }
        }
        return true;
    }

    private int couplesOn(int weekday) {
        int couples = 0;
        for (int i = 0; i < numberCount; i++) {
            if (numberAt(i) == weekday) {
                couples++;
            }
        }
        return couples;
    }

    private int fewestFriends() {
        // A friend serves three weekdays of the ring of seven at most; more than that and
        // what two neighbours ask for is never needed (colouring an odd ring with weights).
        int fewest = (numberCount + 2) / 3;
        for (int w = 0; w < WEEK; w++) {
            fewest = Math.max(fewest, couplesOn(w) + couplesOn((w + 1) % WEEK));
        }
        return fewest;
    }

    private int busiestWeekday() {
        int busiest = NONE;
        int most = 0;
        for (int w = 0; w < WEEK; w++) {
            int here = couplesOn(w);
            if (here > most) {
                most = here;
                busiest = w;
            }
        }
        return busiest;
    }

    private int firstMistold(int who) {
        mind.copyFrom(now);
        for (int i = 0; i < numberCount; i++) {
            int day = now.day + 1 + i;
            if (day > LAST_DAY) {
                return i;
            }
            mind.liveTo(day);
            if (Math.min(MOST_NUMBER, mind.person(who).purse) != numberAt(i)) {
                return i;
            }
        }
        return NONE;
    }

    // ---- numbers

    private static int weekdaysIn(int first, int days, int weekday) {
        int many = 0;
        for (int i = 0; i < days; i++) {
            if ((first + i) % WEEK == weekday) {
                many++;
            }
        }
        return many;
    }

    private static long power(int base, int n) {
        long power = 1;
        for (int i = 0; i < n; i++) {
            power *= base;
        }
        return power;
    }

    private static int paidOf(int weight, int giverHas, int takerHas) {
        return Math.min(weight, Math.min(giverHas, FULL_PURSE - takerHas));
    }

    /** One of the two. */
    private static final class Person {
        private int weekday;
        private int purse = 50;
        private int borrowed;
        private int owed;
        private boolean jealous;

        private Person(int weekday) {
            this.weekday = weekday;
        }

        private void copyFrom(Person other) {
            weekday = other.weekday;
            purse = other.purse;
            borrowed = other.borrowed;
            owed = other.owed;
            jealous = other.jealous;
        }

        private boolean isDueOn(int day) {
            return day % WEEK == weekday && !jealous;
        }

        private void endDay(int day) {
            if (isDueOn(day)) {
                purse -= Math.min(FINE, purse);
                borrowed++;
            }
            jealous = false;
        }
    }

    /** A cause that one found for the other. */
    private static final class Cause {
        private int kind;
        private int figure;
        private int whose;
        private int found;
        private boolean used;
        private int lasting;
        private int weight;

        private void copyFrom(Cause other) {
            kind = other.kind;
            figure = other.figure;
            whose = other.whose;
            found = other.found;
            used = other.used;
            lasting = other.lasting;
            weight = other.weight;
        }

        private void become(int newKind, int newFigure, int who, int day) {
            kind = newKind;
            figure = newFigure;
            whose = who;
            found = day;
            used = false;
            lasting = lastingOf(newKind, newFigure);
            weight = weightOf(newKind, newFigure);
        }

        /** The last day on which it is not sour. */
        private int lastDay() {
            return found + lasting;
        }

        private boolean isFreshOn(int day) {
            return found <= day && day - found <= lasting;
        }

        /** How many days it keeps. */
        private static int lastingOf(int kind, int figure) {
            int plain = 5 + figure;
            switch (kind) {
                case GLOVE: return 2 * plain;
                case LAUGH: return plain / 2;
                case LENT: return 0;
                case REAL: return plain / 2 - 1;
                case NOTE: return 2 * plain + 7;
                default: return plain;
            }
        }

        private static int weightOf(int kind, int figure) {
            int plain = figure + 1;
            switch (kind) {
                case GLOVE: return plain + 2;
                case LAUGH: return 2 * plain;
                case LENT: return plain / 2;
                case REAL: return 2 * plain + 9;
                case NOTE: return plain + 1;
                default: return plain;
            }
        }
    }

    /** All that there is: the day, the two, their causes. */
    private static final class Affair {
        private int day;
        private final Person he = new Person(0);
        private final Person she = new Person(3);
        private final Cause[] causes = new Cause[MOST_CAUSES];
        private int count;

        private Affair() {
            for (int c = 0; c < MOST_CAUSES; c++) {
                causes[c] = new Cause();
            }
        }

        private void copyFrom(Affair other) {
            day = other.day;
            he.copyFrom(other.he);
            she.copyFrom(other.she);
            count = other.count;
            for (int c = 0; c < count && c < MOST_CAUSES; c++) {
                causes[c].copyFrom(other.causes[c]);
            }
        }

        private Person person(int who) {
            return who == HE ? he : she;
        }

        private Cause causeAt(int number) {
            return number >= 0 && number < count && number < MOST_CAUSES ? causes[number] : null;
        }

        private void bring(int kind, int figure, int who, int found) {
            if (count < 0 || count >= MOST_CAUSES) {
                return;
            }
            causes[count].become(kind, figure, who, found);
            count++;
        }

        private int used() {
            int bits = 0;
            for (int c = 0; c < count && c < MOST_CAUSES; c++) {
                if (causes[c].used) {
                    bits |= 1 << c;
                }
            }
            return bits;
        }

        private int unused() {
            return (1 << count) - 1 & ~used();
        }

        private int unusedFor(int who) {
            int bits = 0;
            for (int c = 0; c < count && c < MOST_CAUSES; c++) {
                if (!causes[c].used && causes[c].whose == who) {
                    bits |= 1 << c;
                }
            }
            return bits;
        }

        private int weightUnused() {
            int weight = 0;
            for (int c = 0; c < count && c < MOST_CAUSES; c++) {
                if (!causes[c].used) {
                    weight += causes[c].weight;
                }
            }
            return weight;
        }

        private boolean isGood(Cause cause, int onDay) {
            boolean isHisDay = cause.kind == REAL || onDay % WEEK == person(cause.whose).weekday;
            return isHisDay && cause.isFreshOn(onDay);
        }

        private boolean hasGoodOn(int onDay) {
            for (int c = 0; c < count && c < MOST_CAUSES; c++) {
                if (!causes[c].used && isGood(causes[c], onDay)) {
                    return true;
                }
            }
            return false;
        }

        private boolean isUsable(Cause cause) {
            return !cause.used && !person(cause.whose).jealous && isGood(cause, day);
        }

        /** Uses a usable one: what the other one pays. */
        private int spend(Cause cause) {
            Person taker = person(cause.whose);
            Person giver = person(otherThan(cause.whose));
            int weight = cause.weight;
            int paid = paidOf(weight, giver.purse, taker.purse);
            giver.purse -= paid;
            giver.owed += weight - paid;
            taker.purse += paid;
            taker.jealous = true;
            cause.used = true;
            return paid;
        }

        private void endDay() {
            he.endDay(day);
            she.endDay(day);
            day++;
        }

        private void findLater(int who, int days) {
            for (int c = 0; c < count && c < MOST_CAUSES; c++) {
                if (!causes[c].used && causes[c].whose == who) {
                    causes[c].found = Math.min(LAST_DAY, causes[c].found + days);
                }
            }
        }

        /** The cause that one uses on this day if he lives by hand, -1 if none. */
        private int atHand(int who) {
            if (!person(who).isDueOn(day)) {
                return -1;
            }
            int soonest = -1;
            int lastDay = 0;
            for (int c = 0; c < count && c < MOST_CAUSES; c++) {
                Cause cause = causes[c];
                // It is his weekday, so of any kind what is fresh is good.
                if (cause.whose != who || cause.used || !cause.isFreshOn(day)) {
                    continue;
                }
                if (soonest < 0 || cause.lastDay() < lastDay) {
                    soonest = c;
                    lastDay = cause.lastDay();
                }
            }
            return soonest;
        }

        /** One uses what is at hand on this day: its weight. */
        private int liveDay(int who) {
            Cause cause = causeAt(atHand(who));
            if (cause == null) {
                return 0;
            }
            spend(cause);
            return cause.weight;
        }

        private void liveTo(int n) {
            for (int d = day; d < n; d++) {
                liveDay(HE);
                liveDay(SHE);
                endDay();
            }
        }
    }

    /** A cause within a plan, with the days of the plan for which it is good, as bits. */
    private static final class Choice {
        private int number;
        private int weight;
        private int lastDay;
        private int goodDays;
    }

    /** Days of one, and the causes that could be laid out on them. */
    private static final class Plan {
        private final int[] dayOf = new int[MOST_NEEDED];
        private int days;
        private final Choice[] byNumber = new Choice[MOST_CAUSES];
        private final Choice[] byWeight = new Choice[MOST_CAUSES];
        private int size;
        private int all;
        private final Choice[] taker = new Choice[MOST_NEEDED];
        private int seen;
        private int kept;
        private final int[] hand = new int[MOST_NEEDED];
        private final int[] goodOn = new int[MOST_NEEDED];

        private Plan() {
            for (int c = 0; c < MOST_CAUSES; c++) {
                byNumber[c] = new Choice();
                byNumber[c].number = c;
                byWeight[c] = byNumber[c];
            }
        }

        private void takeNeeded(Affair affair, int who, int weekday, int n) {
            boolean jealous = affair.person(who).jealous;
            days = 0;
            for (int day = affair.day; day <= n; day++) {
                boolean isOut = jealous && day == affair.day;
                if (day % WEEK == weekday && !isOut) {
                    takeDay(day);
                }
            }
        }

        private void takeDays(int[] rising, int many) {
            days = 0;
            for (int i = 0; i < many && i < rising.length; i++) {
                takeDay(rising[i]);
            }
        }

        private void takeDay(int day) {
            if (days >= 0 && days < MOST_NEEDED) {
                dayOf[days] = day;
                days++;
            }
        }

        /** The causes of these bits; the heaviest comes first, of several the greatest number. */
        private void takeCauses(Affair affair, int bits) {
            all = 0;
            size = 0;
            for (int c = 0; c < MOST_CAUSES; c++) {
                Cause cause = affair.causeAt(c);
                if (cause == null || (bits & 1 << c) == 0) {
                    continue;
                }
                Choice choice = byNumber[c];
                choice.weight = cause.weight;
                choice.lastDay = cause.lastDay();
                choice.goodDays = freshDaysOf(cause);
                all |= 1 << c;
                sortIn(choice);
            }
        }

        private int freshDaysOf(Cause cause) {
            int bits = 0;
            for (int i = 0; i < days && i < MOST_NEEDED; i++) {
                if (cause.isFreshOn(dayOf[i])) {
                    bits |= 1 << i;
                }
            }
            return bits;
        }

        private void sortIn(Choice choice) {
            if (size < 0 || size >= MOST_CAUSES) {
                return;
            }
            int place = size;
            while (place > 0 && byWeight[place - 1].weight <= choice.weight) {
                byWeight[place] = byWeight[place - 1];
                place--;
            }
            byWeight[place] = choice;
            size++;
        }

        private int allDays() {
            return (1 << days) - 1;
        }

        private int value() {
            return bestOf(all, allDays());
        }

        private int valueWithout(int bits) {
            return bestOf(all & ~bits, allDays());
        }

        /**
         * The greatest value by some of the causes and days. To take the heaviest first, each one
         * that still finds a day if others move, gives the most days and the most weight at once.
         */
        private int bestOf(int causeBits, int dayBits) {
            for (int i = 0; i < MOST_NEEDED; i++) {
                taker[i] = null;
            }
            kept = 0;
            int value = 0;
            for (int k = 0; k < size && k < MOST_CAUSES; k++) {
                Choice choice = byWeight[k];
                if (choice == null || (causeBits & 1 << choice.number) == 0) {
                    continue;
                }
                seen = ~dayBits;
                if (findDay(this, choice, 0)) {
                    kept |= 1 << choice.number;
                    value += DAY_VALUE + choice.weight;
                }
            }
            return value;
        }

        /** Each step down marks one day more as seen, so the depth stays within the days. */
        private static boolean findDay(Plan plan, Choice choice, int depth) {
            if (depth > MOST_NEEDED) {
                return false;
            }
            for (int i = 0; i < plan.days && i < MOST_NEEDED; i++) {
                int bit = 1 << i;
                if ((choice.goodDays & bit) == 0 || (plan.seen & bit) != 0) {
                    continue;
                }
                plan.seen |= bit;
                Choice there = plan.taker[i];
                if (there == null || findDay(plan, there, depth + 1)) {
                    plan.taker[i] = choice;
                    return true;
                }
            }
            return false;
        }

        /** The cause of the i-th day by the first way with the greatest value. */
        private int firstWay(int index) {
            int left = all;
            int value = value();
            for (int i = 0; i < days; i++) {
                Choice chosen = firstOn(i, left, value);
                if (i == index) {
                    return chosen == null ? NONE : chosen.number;
                }
                if (chosen != null) {
                    left &= ~(1 << chosen.number);
                    value -= DAY_VALUE + chosen.weight;
                }
            }
            return NONE;
        }

        /** The first cause for the day by which the value can still be reached; null: by none. */
        private Choice firstOn(int i, int left, int value) {
            int later = allDays() & -(2 << i);
            for (int c = 0; c < MOST_CAUSES; c++) {
                Choice choice = byNumber[c];
                if ((left & 1 << c) == 0 || (choice.goodDays & 1 << i) == 0) {
                    continue;
                }
                int rest = bestOf(left & ~(1 << c), later);
                if (rest + DAY_VALUE + choice.weight == value) {
                    return choice;
                }
            }
            return null;
        }

        private int causesGoodOn(int i) {
            int bits = 0;
            for (int c = 0; c < MOST_CAUSES; c++) {
                if ((all & 1 << c) != 0 && (byNumber[c].goodDays & 1 << i) != 0) {
                    bits |= 1 << c;
                }
            }
            return bits;
        }

        /** The smallest set of the first days that have fewer causes together than they are. */
        private int shortDays() {
            int first = Math.min(days, FIRST_NEEDED);
            for (int i = 0; i < first && i < MOST_NEEDED; i++) {
                goodOn[i] = causesGoodOn(i);
            }
            int fewest = first + 1;
            int best = NONE;
            for (int set = 1; set < 1 << first; set++) {
                int many = Integer.bitCount(set);
                if (many < fewest && Integer.bitCount(causesOfDays(set, first)) < many) {
                    fewest = many;
                    best = set;
                }
            }
            return best;
        }

        private int causesOfDays(int set, int first) {
            int causes = 0;
            for (int i = 0; i < first && i < MOST_NEEDED; i++) {
                if ((set & 1 << i) != 0) {
                    causes |= goodOn[i];
                }
            }
            return causes;
        }

        private void layByHand() {
            int left = all;
            for (int i = 0; i < days && i < MOST_NEEDED; i++) {
                int soonest = soonestOn(i, left);
                hand[i] = soonest;
                if (soonest >= 0) {
                    left &= ~(1 << soonest);
                }
            }
        }

        private int soonestOn(int i, int left) {
            int soonest = -1;
            int lastDay = 0;
            for (int c = 0; c < MOST_CAUSES; c++) {
                Choice choice = byNumber[c];
                if ((left & 1 << c) == 0 || (choice.goodDays & 1 << i) == 0) {
                    continue;
                }
                if (soonest < 0 || choice.lastDay < lastDay) {
                    soonest = c;
                    lastDay = choice.lastDay;
                }
            }
            return soonest;
        }

        private int withoutByHand() {
            int without = 0;
            for (int i = 0; i < days && i < MOST_NEEDED; i++) {
                if (hand[i] < 0) {
                    without++;
                }
            }
            return without;
        }

        private int firstWithoutByHand() {
            for (int i = 0; i < days && i < MOST_NEEDED; i++) {
                if (hand[i] < 0) {
                    return dayOf[i];
                }
            }
            return NONE;
        }

        private int longestByHand(boolean with) {
            int longest = 0;
            int length = 0;
            for (int i = 0; i < days && i < MOST_NEEDED; i++) {
                length = hand[i] >= 0 == with ? length + 1 : 0;
                longest = Math.max(longest, length);
            }
            return longest;
        }

        private boolean hasByHandOn(int day) {
            for (int i = 0; i < days && i < MOST_NEEDED; i++) {
                if (dayOf[i] == day) {
                    return hand[i] >= 0;
                }
            }
            return false;
        }

        private int weightOf(int bits) {
            int weight = 0;
            for (int c = 0; c < MOST_CAUSES; c++) {
                if ((bits & 1 << c) != 0) {
                    weight += byNumber[c].weight;
                }
            }
            return weight;
        }

        /** How much more the first has at the end: behind his choice the heaviest is best for both. */
        private int leadByTaking(Choice taken) {
            int lead = taken.weight;
            int sign = -1;
            for (int k = 0; k < size && k < MOST_CAUSES; k++) {
                if (byWeight[k] != taken) {
                    lead += sign * byWeight[k].weight;
                    sign = -sign;
                }
            }
            return lead;
        }

        /** In how many ways all the days can have one each of these causes. */
        private long waysOf(int causeBits, long[] ways) {
            int full = Math.min(allDays(), ways.length - 1);
            for (int set = 0; set <= full; set++) {
                ways[set] = set == 0 ? 1 : 0;
            }
            for (int c = 0; c < MOST_CAUSES; c++) {
                if ((causeBits & 1 << c) != 0) {
                    spread(byNumber[c].goodDays & full, full, ways);
                }
            }
            return full >= 0 ? ways[full] : 0;
        }

        /** From the greatest set down, so that the cause comes once into each way. */
        private static void spread(int goodDays, int full, long[] ways) {
            for (int set = Math.min(full, ways.length - 1); set >= 0; set--) {
                int open = goodDays & ~set;
                while (open != 0 && ways[set] != 0) {
                    int bit = open & -open;
                    int more = set | bit;
                    if (more < ways.length) {
                        ways[more] += ways[set];
                    }
                    open &= open - 1;
                }
            }
        }
    }

    /** Who pays for what in a run, one behind the other: this does not hang on the purses. */
    private static final class Course {
        private static final int MOST_STEPS = 2 * MOST_NEEDED + 2;
        private final int[] payer = new int[MOST_STEPS];
        private final int[] weight = new int[MOST_STEPS];
        private final boolean[] isFine = new boolean[MOST_STEPS];
        private int steps;

        /** Lives the affair to the day n and notes what is to be paid. */
        private void follow(Affair affair, int n) {
            steps = 0;
            for (int day = affair.day; day < n; day++) {
                followUse(affair, HE);
                followUse(affair, SHE);
                followEnd(affair, HE);
                followEnd(affair, SHE);
                affair.endDay();
            }
        }

        private void followUse(Affair affair, int who) {
            Cause cause = affair.causeAt(affair.atHand(who));
            if (cause != null) {
                note(otherThan(who), cause.weight, false);
                affair.spend(cause);
            }
        }

        private void followEnd(Affair affair, int who) {
            if (affair.person(who).isDueOn(affair.day)) {
                note(who, FINE, true);
            }
        }

        private void note(int who, int violets, boolean fine) {
            if (steps >= 0 && steps < MOST_STEPS) {
                payer[steps] = who;
                weight[steps] = violets;
                isFine[steps] = fine;
                steps++;
            }
        }

        /** Whether one who has so many violets now owes nothing more by it. */
        private boolean isCoveredBy(int who, int purse, int theirPurse) {
            int mine = purse;
            int theirs = theirPurse;
            for (int i = 0; i < steps && i < MOST_STEPS; i++) {
                boolean isMine = payer[i] == who;
                if (isFine[i]) {
                    int fine = Math.min(weight[i], isMine ? mine : theirs);
                    mine -= isMine ? fine : 0;
                    theirs -= isMine ? 0 : fine;
                    continue;
                }
                int paid = isMine ? paidOf(weight[i], mine, theirs) : paidOf(weight[i], theirs, mine);
                if (isMine && paid < weight[i]) {
                    return false;
                }
                mine += isMine ? -paid : paid;
                theirs += isMine ? paid : -paid;
            }
            return true;
        }
    }
}
