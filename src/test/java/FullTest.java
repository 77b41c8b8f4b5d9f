import java.lang.reflect.Method;
import java.util.Arrays;

/** All is full: eight divers, seven or twelve judges, 42 chairs, 40 dives; each call over its ranges, against the model. */
public final class FullTest {
    private static final int MOST_CALLS = 500;

    private final int judges;
    private final int halls;
    private DiveChairs x;
    private Model m;
    private int calls;

    private FullTest(int judges, int halls) {
        this.judges = judges;
        this.halls = halls;
    }

    public static void main(String[] args) throws Exception {
        for (int judges = 7; judges <= 12; judges += 5) {
            new FullTest(judges, 1).askAll();
            new FullTest(judges, 6).askAll();
        }
        Check.finish();
    }

    private void both(String name, int... told) throws Exception {
        Check.is(name + Arrays.toString(told), answer(m, name, told), answer(x, name, told));
        calls++;
    }

    /** Asks in a new full object if the one there is used up. */
    private void ask(String name, int... told) throws Exception {
        if (calls >= MOST_CALLS) {
            fill();
        }
        both(name, told);
    }

    private static long answer(Object asked, String name, int[] told) throws Exception {
        Class<?>[] types = new Class<?>[told.length];
        Object[] values = new Object[told.length];
        for (int i = 0; i < told.length; i++) {
            types[i] = int.class;
            values[i] = told[i];
        }
        Method call = asked.getClass().getMethod(name, types);
        return ((Number) call.invoke(asked, values)).longValue();
    }

    private void fill() throws Exception {
        x = new DiveChairs();
        m = new Model();
        calls = 0;
        for (int n = 0; n < 8; n++) {
            both("diver", n % 6, n + 2);
        }
        for (int n = 0; n < judges; n++) {
            both("judge", n < 8 ? n : n - 6, 100 * (n % 6) + 10 * (9 - n % 8) + 5 * n % 6);
        }
        for (int hall = 0; hall < 6; hall++) {
            both("year", hall, hall % 4 * 10);
            for (int chair = 0; chair < 7; chair++) {
                both("chair", hall, chair, (2 * hall + chair) % judges);
            }
        }
        for (int n = 0; n < 40; n++) {
            both("dive", 5 - n % halls, (n + n / 8) % 8, (37 * n + 5) % 64 & ~(n % 8), 100 * (40 - n % 31) + 10 * (n % 10));
        }
        both("markAll", -1);
        for (int dive = 36; dive < 40; dive++) {
            tell(dive);
        }
    }

    private void tell(int dive) throws Exception {
        both("row", dive % 8, 0, 7);
        for (int chair = 0; chair < 7; chair++) {
            both("put", dive % 8, chair, (11 * chair + 3 * dive) % 21);
        }
        both("marks", dive, dive % 8);
    }

    private void askAll() throws Exception {
        fill();
        both("diver", 0, 0);
        both("judge", 0, judges == 7 ? 600 : 0);
        both("dive", 0, 0, 0, 1000);
        for (int dive = 0; dive < 40; dive++) {
            askDive(dive);
        }
        for (int hall = 0; hall < 6; hall++) {
            askHall(hall);
            for (int diver = 0; diver < 8; diver++) {
                askDiver(hall, diver);
            }
        }
        for (int judge = 0; judge < judges; judge++) {
            askJudge(judge);
        }
        askTheRest();
    }

    private void askDive(int dive) throws Exception {
        for (int what = 0; what < 7; what++) {
            ask("of", dive, what);
        }
        for (int chair = 0; chair < 7; chair++) {
            ask("mark", dive, chair);
            ask("would", dive, chair);
        }
        ask("counts", dive);
    }

    private void askHall(int hall) throws Exception {
        ask("won", hall);
        for (int chair = 0; chair < 7; chair++) {
            ask("wonIf", hall, 0, chair);
        }
        for (int n = 0; n <= 33; n++) {
            ask("wonIf", hall, 1, n);
        }
        ask("wonIf", hall, 2, 0);
        ask("order", hall);
        ask("orderOdds", hall, 0);
        ask("orderOdds", hall, 1);
        for (int n = 1; n <= 30; n += 29) {
            ask("worlds", hall, n, 1000003 * hall + n);
        }
    }

    private void askDiver(int hall, int diver) throws Exception {
        ask("total", hall, diver);
        ask("place", hall, diver);
        for (int n = 1; n <= 3; n++) {
            ask("moved", hall, diver, n, 0);
            ask("moved", hall, diver, n, 1);
        }
    }

    private void askJudge(int judge) throws Exception {
        for (int land = 0; land < 6; land++) {
            for (int what = 0; what < 4; what++) {
                ask("lean", judge, land, what);
            }
        }
        ask("near", judge);
        ask("keep", judge % 8, 1, judge);
        ask("weight", judge % 8);
        ask("toss", judge % 8);
    }

    private void askTheRest() throws Exception {
        ask("nearest");
        ask("pairs");
        ask("pairOdds", 0);
        ask("pairOdds", 1);
        for (int first = 0; first <= 40; first += 10) {
            for (int second = 0; second <= 40; second += 10) {
                ask("creep", first, second);
            }
        }
        fill();
        ask("image");
        ask("markAll", -1);
        ask("markAll", 39);
        for (int what = 0; what < 14; what++) {
            ask("count", what);
        }
        ask("restore");
        for (int what = 0; what < 14; what++) {
            ask("count", what);
        }
        for (int dive = 30; dive < 40; dive++) {
            ask("mark", dive, 6);
        }
    }
}
