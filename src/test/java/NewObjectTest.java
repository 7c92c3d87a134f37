public final class NewObjectTest {
  public static void main(String[] args) { if (new StakeLedger().sum(20) != 201600) System.exit(1); }
}
