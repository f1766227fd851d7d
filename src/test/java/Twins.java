import java.util.ArrayList;
import java.util.List;
import java.util.function.Consumer;
import java.util.function.Function;
import java.util.function.ToLongFunction;

/** Two objects behind the same calls, of which one is asked what it must refuse: all else has to stay the same. */
final class Twins {
    private static final List<Function<FathersPay, List<Long>>> LOOKS = List.of(Twins::now, Twins::kept, Twins::sheets);

    private Twins() {
    }

    /** A call is refused behind Towns.settleIn() and other calls. */
    static void refused(String call, Consumer<FathersPay> ahead, ToLongFunction<FathersPay> act, int error) {
        refusedBut(call, ahead, act, error, x -> { });
    }

    static void refused(String call, ToLongFunction<FathersPay> act, int error) {
        refused(call, x -> { }, act, error);
    }

    /** As refused(), but what the document says to change all the same is done to the other one. */
    static void refusedBut(String call, Consumer<FathersPay> ahead, ToLongFunction<FathersPay> act, int error,
            Consumer<FathersPay> changed) {
        for (Function<FathersPay, List<Long>> look : LOOKS) {
            FathersPay asked = behind(ahead);
            FathersPay left = behind(ahead);
            Due.due(call, act.applyAsLong(asked), error);
            changed.accept(left);
            compare(call, asked, left, error, look);
        }
    }

    /** A call that only asks. */
    static void unchanged(String call, Consumer<FathersPay> ahead, ToLongFunction<FathersPay> act) {
        for (Function<FathersPay, List<Long>> look : LOOKS) {
            FathersPay asked = behind(ahead);
            Due.holds(call + " is no ERROR", act.applyAsLong(asked) >= Due.LOW);
            compare(call, asked, behind(ahead), 0, look);
        }
    }

    static void unchanged(String call, ToLongFunction<FathersPay> act) {
        unchanged(call, x -> { }, act);
    }

    private static FathersPay behind(Consumer<FathersPay> ahead) {
        FathersPay x = Towns.settled();
        ahead.accept(x);
        return x;
    }

    private static void compare(String call, FathersPay asked, FathersPay left, int error,
            Function<FathersPay, List<Long>> look) {
        for (int k = 1; k <= 6; k++) {
            Due.due("told(" + k + ") behind " + call, asked.told(k), left.told(k) + (Due.LOW - k == error ? 1 : 0));
        }
        Due.holds("nothing else changes by " + call, look.apply(asked).equals(look.apply(left)));
    }

    /** All but SHEETS and the IMAGE; changes what can only be seen by that. */
    private static List<Long> now(FathersPay x) {
        List<Long> all = new ArrayList<>();
        for (int what = 0; what <= 9; what++) {
            all.add((long) x.count(what));
        }
        for (int p = 0; p < x.count(0); p++) {
            for (int what = 0; what <= 7; what++) {
                all.add((long) x.personIs(p, what));
            }
        }
        for (int d = 0; d < x.count(2); d++) {
            for (int what = 0; what <= 3; what++) {
                all.add((long) x.debtIs(d, what));
            }
        }
        for (int i = 0; i < x.count(8); i++) {
            all.add((long) x.body(i));
        }
        for (int p = 0; p < 5; p++) {
            all.add((long) x.called(0, p));
            all.add((long) x.called(1, p));
        }
        all.add((long) x.check(0));
        all.add((long) x.years(1));
        for (int p = 0; p < 5; p++) {
            all.add((long) x.personIs(p, 5));
        }
        all.add((long) x.text(0));
        all.add((long) x.called(0, 0));
        all.add((long) x.untell(0));
        all.add((long) x.untell(1));
        all.add((long) x.rule(0, 9));
        all.add((long) x.rule(1, 0));
        all.add((long) x.rule(2, 0));
        return all;
    }

    private static List<Long> kept(FathersPay x) {
        List<Long> all = new ArrayList<>();
        all.add((long) x.restore());
        all.addAll(now(x));
        all.add((long) x.image());
        return all;
    }

    private static List<Long> sheets(FathersPay x) {
        List<Long> all = new ArrayList<>();
        int settledAhead = x.restore();
        all.add((long) settledAhead);
        for (int sheet = 0; sheet < 4; sheet++) {
            for (int other = 0; other < 4; other++) {
                all.add((long) x.move(sheet, 0, other, 0, 0));
            }
            all.add((long) x.debts(sheet));
            for (int i : new int[] {0, 2, 3, 5, 6, 23, 24}) {
                all.add((long) x.put(sheet, i, 0));
            }
        }
        for (int d = 0; d < x.count(2); d++) {
            for (int what = 0; what <= 3; what++) {
                all.add((long) x.debtIs(d, what));
            }
        }
        return all;
    }
}
