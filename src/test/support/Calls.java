import java.util.Map;
import java.util.WeakHashMap;

/** The calls of the face by their names, so that tests can go through them in a row. */
final class Calls {
    static final String[] NAMES = {"valley", "fog", "candle", "move", "light", "undo", "type", "clear", "read",
        "of", "shines", "cell", "acres", "hedges", "dark", "want", "forget", "lighting", "tallow", "put", "thief",
        "wedding", "spite", "reading", "burnt", "burn", "measure", "draught", "nights", "part", "image", "from",
        "status", "count", "digest"};
    /** Later calls may answer anything, so a test that makes them would ask too much. */
    static final int MOST = 512;

    private static final Map<CandleLand, Integer> MADE = new WeakHashMap<>();

    private Calls() {
    }

    /** How many calls the object may still be used for. */
    static int left(CandleLand x) {
        return MOST - MADE.getOrDefault(x, 0);
    }

    static long answer(CandleLand x, String call, int... a) {
        if (MADE.merge(x, 1, Integer::sum) > MOST) {
            throw new IllegalStateException("more than " + MOST + " calls of one object");
        }
        switch (call) {
            case "valley": return x.valley(a[0]);
            case "fog": return x.fog(a[0]);
            case "candle": return x.candle(a[0], a[1], a[2], a[3], a[4]);
            case "move": return x.move(a[0], a[1]);
            case "light": return x.light(a[0], a[1]);
            case "undo": return x.undo();
            case "type": return x.type(a[0]);
            case "clear": return x.clear();
            case "read": return x.read();
            case "of": return x.of(a[0], a[1]);
            case "shines": return x.shines(a[0], a[1], a[2]);
            case "cell": return x.cell(a[0], a[1], a[2]);
            case "acres": return x.acres(a[0], a[1], a[2]);
            case "hedges": return x.hedges(a[0], a[1]);
            case "dark": return x.dark(a[0], a[1], a[2]);
            case "want": return x.want(a[0]);
            case "forget": return x.forget();
            case "lighting": return x.lighting(a[0], a[1]);
            case "tallow": return x.tallow(a[0], a[1]);
            case "put": return x.put(a[0], a[1]);
            case "thief": return x.thief(a[0], a[1], a[2], a[3], a[4]);
            case "wedding": return x.wedding(a[0], a[1], a[2]);
            case "spite": return x.spite(a[0], a[1], a[2], a[3]);
            case "reading": return x.reading(a[0], a[1], a[2]);
            case "burnt": return x.burnt();
            case "burn": return x.burn(a[0]);
            case "measure": return x.measure(a[0]);
            case "draught": return x.draught(a[0], a[1], a[2], a[3]);
            case "nights": return x.nights(a[0], a[1], a[2], a[3]);
            case "part": return x.part(a[0]);
            case "image": return x.image(a[0]);
            case "from": return x.from(a[0]);
            case "status": return x.status(a[0]);
            case "count": return x.count(a[0]);
            case "digest": return x.digest();
            default: throw new IllegalStateException(call);
        }
    }
}
