import com.sun.management.ThreadMXBean;
import java.lang.management.ManagementFactory;

/** What 512 calls of the dearest kinds make, in bytes: far below what all of a run may hold. */
public final class RoomTest {
  private static final int CALLS = 512;

  public static void main(String[] args) {
    long first = allocated();
    WassailEnemies x = full();
    Due.holds("an object is small", allocated() - first < 200_000);
    for (int which = 0; which < 10; which++) {
      dear(x, which);
      long before = allocated();
      for (int i = 0; i < CALLS; i++) {
        dear(x, which);
      }
      long bytes = allocated() - before;
      Due.holds("kind " + which + " makes little: " + bytes, bytes < 1_000_000);
    }
    Due.end("RoomTest");
  }

  private static long allocated() {
    return ((ThreadMXBean) ManagementFactory.getThreadMXBean()).getCurrentThreadAllocatedBytes();
  }

  private static WassailEnemies full() {
    WassailEnemies x = Due.under("hot 9 t<2|!(p=1&(k>2|v=3));cold 12 y>5&h<8;need 35;wear 4");
    for (int kind = 1; kind <= 6; kind++) {
      x.hater(kind, kind, kind * 15);
      x.see(kind - 1, 2, kind, true);
      x.lead(kind - 1, kind - 1);
    }
    for (int i = 0; i < 10; i++) {
      x.plan(0, 0);
    }
    x.image();
    return x;
  }

  private static void dear(WassailEnemies x, int which) {
    switch (which) {
      case 0: x.ring(14); break;
      case 1: x.told(6); break;
      case 2: x.turn(3, 3, 2); break;
      case 3: x.hates(2, 2, 0); break;
      case 4: x.can(5, 0); break;
      case 5: x.on(60, 0); break;
      case 6: x.ends(1); break;
      case 7: x.undo(); x.hater(0, 0, 0); break;
      case 8: x.act(5, 2, 7); x.tape(0, 3, 60); break;
      default: x.feed('h'); x.orchard(); break;
    }
  }
}
