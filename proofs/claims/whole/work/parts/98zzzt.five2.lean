/-! ===== all boards of five sides (3) ===== -/
theorem ck5_1458 : bl5 1458 = true := by decide +kernel
theorem ck5_1459 : bl5 1459 = true := by decide +kernel
theorem ck5_1460 : bl5 1460 = true := by decide +kernel
theorem ck5_1461 : bl5 1461 = true := by decide +kernel
theorem ck5_1462 : bl5 1462 = true := by decide +kernel
theorem ck5_1463 : bl5 1463 = true := by decide +kernel
theorem ck5_1464 : bl5 1464 = true := by decide +kernel
theorem ck5_1465 : bl5 1465 = true := by decide +kernel
theorem ck5_1466 : bl5 1466 = true := by decide +kernel
theorem ck5_1467 : bl5 1467 = true := by decide +kernel
theorem ck5_1468 : bl5 1468 = true := by decide +kernel
theorem ck5_1469 : bl5 1469 = true := by decide +kernel
theorem ck5_1470 : bl5 1470 = true := by decide +kernel
theorem ck5_1471 : bl5 1471 = true := by decide +kernel
theorem ck5_1472 : bl5 1472 = true := by decide +kernel
theorem ck5_1473 : bl5 1473 = true := by decide +kernel
theorem ck5_1474 : bl5 1474 = true := by decide +kernel
theorem ck5_1475 : bl5 1475 = true := by decide +kernel
theorem ck5_1476 : bl5 1476 = true := by decide +kernel
theorem ck5_1477 : bl5 1477 = true := by decide +kernel
theorem ck5_1478 : bl5 1478 = true := by decide +kernel
theorem ck5_1479 : bl5 1479 = true := by decide +kernel
theorem ck5_1480 : bl5 1480 = true := by decide +kernel
theorem ck5_1481 : bl5 1481 = true := by decide +kernel
theorem ck5_1482 : bl5 1482 = true := by decide +kernel
theorem ck5_1483 : bl5 1483 = true := by decide +kernel
theorem ck5_1484 : bl5 1484 = true := by decide +kernel
theorem ck5_1485 : bl5 1485 = true := by decide +kernel
theorem ck5_1486 : bl5 1486 = true := by decide +kernel
theorem ck5_1487 : bl5 1487 = true := by decide +kernel
theorem ck5_1488 : bl5 1488 = true := by decide +kernel
theorem ck5_1489 : bl5 1489 = true := by decide +kernel
theorem ck5_1490 : bl5 1490 = true := by decide +kernel
theorem ck5_1491 : bl5 1491 = true := by decide +kernel
theorem ck5_1492 : bl5 1492 = true := by decide +kernel
theorem ck5_1493 : bl5 1493 = true := by decide +kernel
theorem ck5_1494 : bl5 1494 = true := by decide +kernel
theorem ck5_1495 : bl5 1495 = true := by decide +kernel
theorem ck5_1496 : bl5 1496 = true := by decide +kernel
theorem ck5_1497 : bl5 1497 = true := by decide +kernel
theorem ck5_1498 : bl5 1498 = true := by decide +kernel
theorem ck5_1499 : bl5 1499 = true := by decide +kernel
theorem ck5_1500 : bl5 1500 = true := by decide +kernel
theorem ck5_1501 : bl5 1501 = true := by decide +kernel
theorem ck5_1502 : bl5 1502 = true := by decide +kernel
theorem ck5_1503 : bl5 1503 = true := by decide +kernel
theorem ck5_1504 : bl5 1504 = true := by decide +kernel
theorem ck5_1505 : bl5 1505 = true := by decide +kernel
theorem ck5_1506 : bl5 1506 = true := by decide +kernel
theorem ck5_1507 : bl5 1507 = true := by decide +kernel
theorem ck5_1508 : bl5 1508 = true := by decide +kernel
theorem ck5_1509 : bl5 1509 = true := by decide +kernel
theorem ck5_1510 : bl5 1510 = true := by decide +kernel
theorem ck5_1511 : bl5 1511 = true := by decide +kernel
theorem ck5_1512 : bl5 1512 = true := by decide +kernel
theorem ck5_1513 : bl5 1513 = true := by decide +kernel
theorem ck5_1514 : bl5 1514 = true := by decide +kernel
theorem ck5_1515 : bl5 1515 = true := by decide +kernel
theorem ck5_1516 : bl5 1516 = true := by decide +kernel
theorem ck5_1517 : bl5 1517 = true := by decide +kernel
theorem ck5_1518 : bl5 1518 = true := by decide +kernel
theorem ck5_1519 : bl5 1519 = true := by decide +kernel
theorem ck5_1520 : bl5 1520 = true := by decide +kernel
theorem ck5_1521 : bl5 1521 = true := by decide +kernel
theorem ck5_1522 : bl5 1522 = true := by decide +kernel
theorem ck5_1523 : bl5 1523 = true := by decide +kernel
theorem ck5_1524 : bl5 1524 = true := by decide +kernel
theorem ck5_1525 : bl5 1525 = true := by decide +kernel
theorem ck5_1526 : bl5 1526 = true := by decide +kernel
theorem ck5_1527 : bl5 1527 = true := by decide +kernel
theorem ck5_1528 : bl5 1528 = true := by decide +kernel
theorem ck5_1529 : bl5 1529 = true := by decide +kernel
theorem ck5_1530 : bl5 1530 = true := by decide +kernel
theorem ck5_1531 : bl5 1531 = true := by decide +kernel
theorem ck5_1532 : bl5 1532 = true := by decide +kernel
theorem ck5_1533 : bl5 1533 = true := by decide +kernel
theorem ck5_1534 : bl5 1534 = true := by decide +kernel
theorem ck5_1535 : bl5 1535 = true := by decide +kernel
theorem ck5_1536 : bl5 1536 = true := by decide +kernel
theorem ck5_1537 : bl5 1537 = true := by decide +kernel
theorem ck5_1538 : bl5 1538 = true := by decide +kernel
theorem ck5_1539 : bl5 1539 = true := by decide +kernel
theorem ck5_1540 : bl5 1540 = true := by decide +kernel
theorem ck5_1541 : bl5 1541 = true := by decide +kernel
theorem ck5_1542 : bl5 1542 = true := by decide +kernel
theorem ck5_1543 : bl5 1543 = true := by decide +kernel
theorem ck5_1544 : bl5 1544 = true := by decide +kernel
theorem ck5_1545 : bl5 1545 = true := by decide +kernel
theorem ck5_1546 : bl5 1546 = true := by decide +kernel
theorem ck5_1547 : bl5 1547 = true := by decide +kernel
theorem ck5_1548 : bl5 1548 = true := by decide +kernel
theorem ck5_1549 : bl5 1549 = true := by decide +kernel
theorem ck5_1550 : bl5 1550 = true := by decide +kernel
theorem ck5_1551 : bl5 1551 = true := by decide +kernel
theorem ck5_1552 : bl5 1552 = true := by decide +kernel
theorem ck5_1553 : bl5 1553 = true := by decide +kernel
theorem ck5_1554 : bl5 1554 = true := by decide +kernel
theorem ck5_1555 : bl5 1555 = true := by decide +kernel
theorem ck5_1556 : bl5 1556 = true := by decide +kernel
theorem ck5_1557 : bl5 1557 = true := by decide +kernel
theorem ck5_1558 : bl5 1558 = true := by decide +kernel
theorem ck5_1559 : bl5 1559 = true := by decide +kernel
theorem ck5_1560 : bl5 1560 = true := by decide +kernel
theorem ck5_1561 : bl5 1561 = true := by decide +kernel
theorem ck5_1562 : bl5 1562 = true := by decide +kernel
theorem ck5_1563 : bl5 1563 = true := by decide +kernel
theorem ck5_1564 : bl5 1564 = true := by decide +kernel
theorem ck5_1565 : bl5 1565 = true := by decide +kernel
theorem ck5_1566 : bl5 1566 = true := by decide +kernel
theorem ck5_1567 : bl5 1567 = true := by decide +kernel
theorem ck5_1568 : bl5 1568 = true := by decide +kernel
theorem ck5_1569 : bl5 1569 = true := by decide +kernel
theorem ck5_1570 : bl5 1570 = true := by decide +kernel
theorem ck5_1571 : bl5 1571 = true := by decide +kernel
theorem ck5_1572 : bl5 1572 = true := by decide +kernel
theorem ck5_1573 : bl5 1573 = true := by decide +kernel
theorem ck5_1574 : bl5 1574 = true := by decide +kernel
theorem ck5_1575 : bl5 1575 = true := by decide +kernel
theorem ck5_1576 : bl5 1576 = true := by decide +kernel
theorem ck5_1577 : bl5 1577 = true := by decide +kernel
theorem ck5_1578 : bl5 1578 = true := by decide +kernel
theorem ck5_1579 : bl5 1579 = true := by decide +kernel
theorem ck5_1580 : bl5 1580 = true := by decide +kernel
theorem ck5_1581 : bl5 1581 = true := by decide +kernel
theorem ck5_1582 : bl5 1582 = true := by decide +kernel
theorem ck5_1583 : bl5 1583 = true := by decide +kernel
theorem ck5_1584 : bl5 1584 = true := by decide +kernel
theorem ck5_1585 : bl5 1585 = true := by decide +kernel
theorem ck5_1586 : bl5 1586 = true := by decide +kernel
theorem ck5_1587 : bl5 1587 = true := by decide +kernel
theorem ck5_1588 : bl5 1588 = true := by decide +kernel
theorem ck5_1589 : bl5 1589 = true := by decide +kernel
theorem ck5_1590 : bl5 1590 = true := by decide +kernel
theorem ck5_1591 : bl5 1591 = true := by decide +kernel
theorem ck5_1592 : bl5 1592 = true := by decide +kernel
theorem ck5_1593 : bl5 1593 = true := by decide +kernel
theorem ck5_1594 : bl5 1594 = true := by decide +kernel
theorem ck5_1595 : bl5 1595 = true := by decide +kernel
theorem ck5_1596 : bl5 1596 = true := by decide +kernel
theorem ck5_1597 : bl5 1597 = true := by decide +kernel
theorem ck5_1598 : bl5 1598 = true := by decide +kernel
theorem ck5_1599 : bl5 1599 = true := by decide +kernel
theorem ck5_1600 : bl5 1600 = true := by decide +kernel
theorem ck5_1601 : bl5 1601 = true := by decide +kernel
theorem ck5_1602 : bl5 1602 = true := by decide +kernel
theorem ck5_1603 : bl5 1603 = true := by decide +kernel
theorem ck5_1604 : bl5 1604 = true := by decide +kernel
theorem ck5_1605 : bl5 1605 = true := by decide +kernel
theorem ck5_1606 : bl5 1606 = true := by decide +kernel
theorem ck5_1607 : bl5 1607 = true := by decide +kernel
theorem ck5_1608 : bl5 1608 = true := by decide +kernel
theorem ck5_1609 : bl5 1609 = true := by decide +kernel
theorem ck5_1610 : bl5 1610 = true := by decide +kernel
theorem ck5_1611 : bl5 1611 = true := by decide +kernel
theorem ck5_1612 : bl5 1612 = true := by decide +kernel
theorem ck5_1613 : bl5 1613 = true := by decide +kernel
theorem ck5_1614 : bl5 1614 = true := by decide +kernel
theorem ck5_1615 : bl5 1615 = true := by decide +kernel
theorem ck5_1616 : bl5 1616 = true := by decide +kernel
theorem ck5_1617 : bl5 1617 = true := by decide +kernel
theorem ck5_1618 : bl5 1618 = true := by decide +kernel
theorem ck5_1619 : bl5 1619 = true := by decide +kernel
theorem ck5_1620 : bl5 1620 = true := by decide +kernel
theorem ck5_1621 : bl5 1621 = true := by decide +kernel
theorem ck5_1622 : bl5 1622 = true := by decide +kernel
theorem ck5_1623 : bl5 1623 = true := by decide +kernel
theorem ck5_1624 : bl5 1624 = true := by decide +kernel
theorem ck5_1625 : bl5 1625 = true := by decide +kernel
theorem ck5_1626 : bl5 1626 = true := by decide +kernel
theorem ck5_1627 : bl5 1627 = true := by decide +kernel
theorem ck5_1628 : bl5 1628 = true := by decide +kernel
theorem ck5_1629 : bl5 1629 = true := by decide +kernel
theorem ck5_1630 : bl5 1630 = true := by decide +kernel
theorem ck5_1631 : bl5 1631 = true := by decide +kernel
theorem ck5_1632 : bl5 1632 = true := by decide +kernel
theorem ck5_1633 : bl5 1633 = true := by decide +kernel
theorem ck5_1634 : bl5 1634 = true := by decide +kernel
theorem ck5_1635 : bl5 1635 = true := by decide +kernel
theorem ck5_1636 : bl5 1636 = true := by decide +kernel
theorem ck5_1637 : bl5 1637 = true := by decide +kernel
theorem ck5_1638 : bl5 1638 = true := by decide +kernel
theorem ck5_1639 : bl5 1639 = true := by decide +kernel
theorem ck5_1640 : bl5 1640 = true := by decide +kernel
theorem ck5_1641 : bl5 1641 = true := by decide +kernel
theorem ck5_1642 : bl5 1642 = true := by decide +kernel
theorem ck5_1643 : bl5 1643 = true := by decide +kernel
theorem ck5_1644 : bl5 1644 = true := by decide +kernel
theorem ck5_1645 : bl5 1645 = true := by decide +kernel
theorem ck5_1646 : bl5 1646 = true := by decide +kernel
theorem ck5_1647 : bl5 1647 = true := by decide +kernel
theorem ck5_1648 : bl5 1648 = true := by decide +kernel
theorem ck5_1649 : bl5 1649 = true := by decide +kernel
theorem ck5_1650 : bl5 1650 = true := by decide +kernel
theorem ck5_1651 : bl5 1651 = true := by decide +kernel
theorem ck5_1652 : bl5 1652 = true := by decide +kernel
theorem ck5_1653 : bl5 1653 = true := by decide +kernel
theorem ck5_1654 : bl5 1654 = true := by decide +kernel
theorem ck5_1655 : bl5 1655 = true := by decide +kernel
theorem ck5_1656 : bl5 1656 = true := by decide +kernel
theorem ck5_1657 : bl5 1657 = true := by decide +kernel
theorem ck5_1658 : bl5 1658 = true := by decide +kernel
theorem ck5_1659 : bl5 1659 = true := by decide +kernel
theorem ck5_1660 : bl5 1660 = true := by decide +kernel
theorem ck5_1661 : bl5 1661 = true := by decide +kernel
theorem ck5_1662 : bl5 1662 = true := by decide +kernel
theorem ck5_1663 : bl5 1663 = true := by decide +kernel
theorem ck5_1664 : bl5 1664 = true := by decide +kernel
theorem ck5_1665 : bl5 1665 = true := by decide +kernel
theorem ck5_1666 : bl5 1666 = true := by decide +kernel
theorem ck5_1667 : bl5 1667 = true := by decide +kernel
theorem ck5_1668 : bl5 1668 = true := by decide +kernel
theorem ck5_1669 : bl5 1669 = true := by decide +kernel
theorem ck5_1670 : bl5 1670 = true := by decide +kernel
theorem ck5_1671 : bl5 1671 = true := by decide +kernel
theorem ck5_1672 : bl5 1672 = true := by decide +kernel
theorem ck5_1673 : bl5 1673 = true := by decide +kernel
theorem ck5_1674 : bl5 1674 = true := by decide +kernel
theorem ck5_1675 : bl5 1675 = true := by decide +kernel
theorem ck5_1676 : bl5 1676 = true := by decide +kernel
theorem ck5_1677 : bl5 1677 = true := by decide +kernel
theorem ck5_1678 : bl5 1678 = true := by decide +kernel
theorem ck5_1679 : bl5 1679 = true := by decide +kernel
theorem ck5_1680 : bl5 1680 = true := by decide +kernel
theorem ck5_1681 : bl5 1681 = true := by decide +kernel
theorem ck5_1682 : bl5 1682 = true := by decide +kernel
theorem ck5_1683 : bl5 1683 = true := by decide +kernel
theorem ck5_1684 : bl5 1684 = true := by decide +kernel
theorem ck5_1685 : bl5 1685 = true := by decide +kernel
theorem ck5_1686 : bl5 1686 = true := by decide +kernel
theorem ck5_1687 : bl5 1687 = true := by decide +kernel
theorem ck5_1688 : bl5 1688 = true := by decide +kernel
theorem ck5_1689 : bl5 1689 = true := by decide +kernel
theorem ck5_1690 : bl5 1690 = true := by decide +kernel
theorem ck5_1691 : bl5 1691 = true := by decide +kernel
theorem ck5_1692 : bl5 1692 = true := by decide +kernel
theorem ck5_1693 : bl5 1693 = true := by decide +kernel
theorem ck5_1694 : bl5 1694 = true := by decide +kernel
theorem ck5_1695 : bl5 1695 = true := by decide +kernel
theorem ck5_1696 : bl5 1696 = true := by decide +kernel
theorem ck5_1697 : bl5 1697 = true := by decide +kernel
theorem ck5_1698 : bl5 1698 = true := by decide +kernel
theorem ck5_1699 : bl5 1699 = true := by decide +kernel
theorem ck5_1700 : bl5 1700 = true := by decide +kernel
theorem ck5_1701 : bl5 1701 = true := by decide +kernel
theorem ck5_1702 : bl5 1702 = true := by decide +kernel
theorem ck5_1703 : bl5 1703 = true := by decide +kernel
theorem ck5_1704 : bl5 1704 = true := by decide +kernel
theorem ck5_1705 : bl5 1705 = true := by decide +kernel
theorem ck5_1706 : bl5 1706 = true := by decide +kernel
theorem ck5_1707 : bl5 1707 = true := by decide +kernel
theorem ck5_1708 : bl5 1708 = true := by decide +kernel
theorem ck5_1709 : bl5 1709 = true := by decide +kernel
theorem ck5_1710 : bl5 1710 = true := by decide +kernel
theorem ck5_1711 : bl5 1711 = true := by decide +kernel
theorem ck5_1712 : bl5 1712 = true := by decide +kernel
theorem ck5_1713 : bl5 1713 = true := by decide +kernel
theorem ck5_1714 : bl5 1714 = true := by decide +kernel
theorem ck5_1715 : bl5 1715 = true := by decide +kernel
theorem ck5_1716 : bl5 1716 = true := by decide +kernel
theorem ck5_1717 : bl5 1717 = true := by decide +kernel
theorem ck5_1718 : bl5 1718 = true := by decide +kernel
theorem ck5_1719 : bl5 1719 = true := by decide +kernel
theorem ck5_1720 : bl5 1720 = true := by decide +kernel
theorem ck5_1721 : bl5 1721 = true := by decide +kernel
theorem ck5_1722 : bl5 1722 = true := by decide +kernel
theorem ck5_1723 : bl5 1723 = true := by decide +kernel
theorem ck5_1724 : bl5 1724 = true := by decide +kernel
theorem ck5_1725 : bl5 1725 = true := by decide +kernel
theorem ck5_1726 : bl5 1726 = true := by decide +kernel
theorem ck5_1727 : bl5 1727 = true := by decide +kernel
theorem ck5_1728 : bl5 1728 = true := by decide +kernel
theorem ck5_1729 : bl5 1729 = true := by decide +kernel
theorem ck5_1730 : bl5 1730 = true := by decide +kernel
theorem ck5_1731 : bl5 1731 = true := by decide +kernel
theorem ck5_1732 : bl5 1732 = true := by decide +kernel
theorem ck5_1733 : bl5 1733 = true := by decide +kernel
theorem ck5_1734 : bl5 1734 = true := by decide +kernel
theorem ck5_1735 : bl5 1735 = true := by decide +kernel
theorem ck5_1736 : bl5 1736 = true := by decide +kernel
theorem ck5_1737 : bl5 1737 = true := by decide +kernel
theorem ck5_1738 : bl5 1738 = true := by decide +kernel
theorem ck5_1739 : bl5 1739 = true := by decide +kernel
theorem ck5_1740 : bl5 1740 = true := by decide +kernel
theorem ck5_1741 : bl5 1741 = true := by decide +kernel
theorem ck5_1742 : bl5 1742 = true := by decide +kernel
theorem ck5_1743 : bl5 1743 = true := by decide +kernel
theorem ck5_1744 : bl5 1744 = true := by decide +kernel
theorem ck5_1745 : bl5 1745 = true := by decide +kernel
theorem ck5_1746 : bl5 1746 = true := by decide +kernel
theorem ck5_1747 : bl5 1747 = true := by decide +kernel
theorem ck5_1748 : bl5 1748 = true := by decide +kernel
theorem ck5_1749 : bl5 1749 = true := by decide +kernel
theorem ck5_1750 : bl5 1750 = true := by decide +kernel
theorem ck5_1751 : bl5 1751 = true := by decide +kernel
theorem ck5_1752 : bl5 1752 = true := by decide +kernel
theorem ck5_1753 : bl5 1753 = true := by decide +kernel
theorem ck5_1754 : bl5 1754 = true := by decide +kernel
theorem ck5_1755 : bl5 1755 = true := by decide +kernel
theorem ck5_1756 : bl5 1756 = true := by decide +kernel
theorem ck5_1757 : bl5 1757 = true := by decide +kernel
theorem ck5_1758 : bl5 1758 = true := by decide +kernel
theorem ck5_1759 : bl5 1759 = true := by decide +kernel
theorem ck5_1760 : bl5 1760 = true := by decide +kernel
theorem ck5_1761 : bl5 1761 = true := by decide +kernel
theorem ck5_1762 : bl5 1762 = true := by decide +kernel
theorem ck5_1763 : bl5 1763 = true := by decide +kernel
theorem ck5_1764 : bl5 1764 = true := by decide +kernel
theorem ck5_1765 : bl5 1765 = true := by decide +kernel
theorem ck5_1766 : bl5 1766 = true := by decide +kernel
theorem ck5_1767 : bl5 1767 = true := by decide +kernel
theorem ck5_1768 : bl5 1768 = true := by decide +kernel
theorem ck5_1769 : bl5 1769 = true := by decide +kernel
theorem ck5_1770 : bl5 1770 = true := by decide +kernel
theorem ck5_1771 : bl5 1771 = true := by decide +kernel
theorem ck5_1772 : bl5 1772 = true := by decide +kernel
theorem ck5_1773 : bl5 1773 = true := by decide +kernel
theorem ck5_1774 : bl5 1774 = true := by decide +kernel
theorem ck5_1775 : bl5 1775 = true := by decide +kernel
theorem ck5_1776 : bl5 1776 = true := by decide +kernel
theorem ck5_1777 : bl5 1777 = true := by decide +kernel
theorem ck5_1778 : bl5 1778 = true := by decide +kernel
theorem ck5_1779 : bl5 1779 = true := by decide +kernel
theorem ck5_1780 : bl5 1780 = true := by decide +kernel
theorem ck5_1781 : bl5 1781 = true := by decide +kernel
theorem ck5_1782 : bl5 1782 = true := by decide +kernel
theorem ck5_1783 : bl5 1783 = true := by decide +kernel
theorem ck5_1784 : bl5 1784 = true := by decide +kernel
theorem ck5_1785 : bl5 1785 = true := by decide +kernel
theorem ck5_1786 : bl5 1786 = true := by decide +kernel
theorem ck5_1787 : bl5 1787 = true := by decide +kernel
theorem ck5_1788 : bl5 1788 = true := by decide +kernel
theorem ck5_1789 : bl5 1789 = true := by decide +kernel
theorem ck5_1790 : bl5 1790 = true := by decide +kernel
theorem ck5_1791 : bl5 1791 = true := by decide +kernel
theorem ck5_1792 : bl5 1792 = true := by decide +kernel
theorem ck5_1793 : bl5 1793 = true := by decide +kernel
theorem ck5_1794 : bl5 1794 = true := by decide +kernel
theorem ck5_1795 : bl5 1795 = true := by decide +kernel
theorem ck5_1796 : bl5 1796 = true := by decide +kernel
theorem ck5_1797 : bl5 1797 = true := by decide +kernel
theorem ck5_1798 : bl5 1798 = true := by decide +kernel
theorem ck5_1799 : bl5 1799 = true := by decide +kernel
theorem ck5_1800 : bl5 1800 = true := by decide +kernel
theorem ck5_1801 : bl5 1801 = true := by decide +kernel
theorem ck5_1802 : bl5 1802 = true := by decide +kernel
theorem ck5_1803 : bl5 1803 = true := by decide +kernel
theorem ck5_1804 : bl5 1804 = true := by decide +kernel
theorem ck5_1805 : bl5 1805 = true := by decide +kernel
theorem ck5_1806 : bl5 1806 = true := by decide +kernel
theorem ck5_1807 : bl5 1807 = true := by decide +kernel
theorem ck5_1808 : bl5 1808 = true := by decide +kernel
theorem ck5_1809 : bl5 1809 = true := by decide +kernel
theorem ck5_1810 : bl5 1810 = true := by decide +kernel
theorem ck5_1811 : bl5 1811 = true := by decide +kernel
theorem ck5_1812 : bl5 1812 = true := by decide +kernel
theorem ck5_1813 : bl5 1813 = true := by decide +kernel
theorem ck5_1814 : bl5 1814 = true := by decide +kernel
theorem ck5_1815 : bl5 1815 = true := by decide +kernel
theorem ck5_1816 : bl5 1816 = true := by decide +kernel
theorem ck5_1817 : bl5 1817 = true := by decide +kernel
theorem ck5_1818 : bl5 1818 = true := by decide +kernel
theorem ck5_1819 : bl5 1819 = true := by decide +kernel
theorem ck5_1820 : bl5 1820 = true := by decide +kernel
theorem ck5_1821 : bl5 1821 = true := by decide +kernel
theorem ck5_1822 : bl5 1822 = true := by decide +kernel
theorem ck5_1823 : bl5 1823 = true := by decide +kernel
theorem ck5_1824 : bl5 1824 = true := by decide +kernel
theorem ck5_1825 : bl5 1825 = true := by decide +kernel
theorem ck5_1826 : bl5 1826 = true := by decide +kernel
theorem ck5_1827 : bl5 1827 = true := by decide +kernel
theorem ck5_1828 : bl5 1828 = true := by decide +kernel
theorem ck5_1829 : bl5 1829 = true := by decide +kernel
theorem ck5_1830 : bl5 1830 = true := by decide +kernel
theorem ck5_1831 : bl5 1831 = true := by decide +kernel
theorem ck5_1832 : bl5 1832 = true := by decide +kernel
theorem ck5_1833 : bl5 1833 = true := by decide +kernel
theorem ck5_1834 : bl5 1834 = true := by decide +kernel
theorem ck5_1835 : bl5 1835 = true := by decide +kernel
theorem ck5_1836 : bl5 1836 = true := by decide +kernel
theorem ck5_1837 : bl5 1837 = true := by decide +kernel
theorem ck5_1838 : bl5 1838 = true := by decide +kernel
theorem ck5_1839 : bl5 1839 = true := by decide +kernel
theorem ck5_1840 : bl5 1840 = true := by decide +kernel
theorem ck5_1841 : bl5 1841 = true := by decide +kernel
theorem ck5_1842 : bl5 1842 = true := by decide +kernel
theorem ck5_1843 : bl5 1843 = true := by decide +kernel
theorem ck5_1844 : bl5 1844 = true := by decide +kernel
theorem ck5_1845 : bl5 1845 = true := by decide +kernel
theorem ck5_1846 : bl5 1846 = true := by decide +kernel
theorem ck5_1847 : bl5 1847 = true := by decide +kernel
theorem ck5_1848 : bl5 1848 = true := by decide +kernel
theorem ck5_1849 : bl5 1849 = true := by decide +kernel
theorem ck5_1850 : bl5 1850 = true := by decide +kernel
theorem ck5_1851 : bl5 1851 = true := by decide +kernel
theorem ck5_1852 : bl5 1852 = true := by decide +kernel
theorem ck5_1853 : bl5 1853 = true := by decide +kernel
theorem ck5_1854 : bl5 1854 = true := by decide +kernel
theorem ck5_1855 : bl5 1855 = true := by decide +kernel
theorem ck5_1856 : bl5 1856 = true := by decide +kernel
theorem ck5_1857 : bl5 1857 = true := by decide +kernel
theorem ck5_1858 : bl5 1858 = true := by decide +kernel
theorem ck5_1859 : bl5 1859 = true := by decide +kernel
theorem ck5_1860 : bl5 1860 = true := by decide +kernel
theorem ck5_1861 : bl5 1861 = true := by decide +kernel
theorem ck5_1862 : bl5 1862 = true := by decide +kernel
theorem ck5_1863 : bl5 1863 = true := by decide +kernel
theorem ck5_1864 : bl5 1864 = true := by decide +kernel
theorem ck5_1865 : bl5 1865 = true := by decide +kernel
theorem ck5_1866 : bl5 1866 = true := by decide +kernel
theorem ck5_1867 : bl5 1867 = true := by decide +kernel
theorem ck5_1868 : bl5 1868 = true := by decide +kernel
theorem ck5_1869 : bl5 1869 = true := by decide +kernel
theorem ck5_1870 : bl5 1870 = true := by decide +kernel
theorem ck5_1871 : bl5 1871 = true := by decide +kernel
theorem ck5_1872 : bl5 1872 = true := by decide +kernel
theorem ck5_1873 : bl5 1873 = true := by decide +kernel
theorem ck5_1874 : bl5 1874 = true := by decide +kernel
theorem ck5_1875 : bl5 1875 = true := by decide +kernel
theorem ck5_1876 : bl5 1876 = true := by decide +kernel
theorem ck5_1877 : bl5 1877 = true := by decide +kernel
theorem ck5_1878 : bl5 1878 = true := by decide +kernel
theorem ck5_1879 : bl5 1879 = true := by decide +kernel
theorem ck5_1880 : bl5 1880 = true := by decide +kernel
theorem ck5_1881 : bl5 1881 = true := by decide +kernel
theorem ck5_1882 : bl5 1882 = true := by decide +kernel
theorem ck5_1883 : bl5 1883 = true := by decide +kernel
theorem ck5_1884 : bl5 1884 = true := by decide +kernel
theorem ck5_1885 : bl5 1885 = true := by decide +kernel
theorem ck5_1886 : bl5 1886 = true := by decide +kernel
theorem ck5_1887 : bl5 1887 = true := by decide +kernel
theorem ck5_1888 : bl5 1888 = true := by decide +kernel
theorem ck5_1889 : bl5 1889 = true := by decide +kernel
theorem ck5_1890 : bl5 1890 = true := by decide +kernel
theorem ck5_1891 : bl5 1891 = true := by decide +kernel
theorem ck5_1892 : bl5 1892 = true := by decide +kernel
theorem ck5_1893 : bl5 1893 = true := by decide +kernel
theorem ck5_1894 : bl5 1894 = true := by decide +kernel
theorem ck5_1895 : bl5 1895 = true := by decide +kernel
theorem ck5_1896 : bl5 1896 = true := by decide +kernel
theorem ck5_1897 : bl5 1897 = true := by decide +kernel
theorem ck5_1898 : bl5 1898 = true := by decide +kernel
theorem ck5_1899 : bl5 1899 = true := by decide +kernel
theorem ck5_1900 : bl5 1900 = true := by decide +kernel
theorem ck5_1901 : bl5 1901 = true := by decide +kernel
theorem ck5_1902 : bl5 1902 = true := by decide +kernel
theorem ck5_1903 : bl5 1903 = true := by decide +kernel
theorem ck5_1904 : bl5 1904 = true := by decide +kernel
theorem ck5_1905 : bl5 1905 = true := by decide +kernel
theorem ck5_1906 : bl5 1906 = true := by decide +kernel
theorem ck5_1907 : bl5 1907 = true := by decide +kernel
theorem ck5_1908 : bl5 1908 = true := by decide +kernel
theorem ck5_1909 : bl5 1909 = true := by decide +kernel
theorem ck5_1910 : bl5 1910 = true := by decide +kernel
theorem ck5_1911 : bl5 1911 = true := by decide +kernel
theorem ck5_1912 : bl5 1912 = true := by decide +kernel
theorem ck5_1913 : bl5 1913 = true := by decide +kernel
theorem ck5_1914 : bl5 1914 = true := by decide +kernel
theorem ck5_1915 : bl5 1915 = true := by decide +kernel
theorem ck5_1916 : bl5 1916 = true := by decide +kernel
theorem ck5_1917 : bl5 1917 = true := by decide +kernel
theorem ck5_1918 : bl5 1918 = true := by decide +kernel
theorem ck5_1919 : bl5 1919 = true := by decide +kernel
theorem ck5_1920 : bl5 1920 = true := by decide +kernel
theorem ck5_1921 : bl5 1921 = true := by decide +kernel
theorem ck5_1922 : bl5 1922 = true := by decide +kernel
theorem ck5_1923 : bl5 1923 = true := by decide +kernel
theorem ck5_1924 : bl5 1924 = true := by decide +kernel
theorem ck5_1925 : bl5 1925 = true := by decide +kernel
theorem ck5_1926 : bl5 1926 = true := by decide +kernel
theorem ck5_1927 : bl5 1927 = true := by decide +kernel
theorem ck5_1928 : bl5 1928 = true := by decide +kernel
theorem ck5_1929 : bl5 1929 = true := by decide +kernel
theorem ck5_1930 : bl5 1930 = true := by decide +kernel
theorem ck5_1931 : bl5 1931 = true := by decide +kernel
theorem ck5_1932 : bl5 1932 = true := by decide +kernel
theorem ck5_1933 : bl5 1933 = true := by decide +kernel
theorem ck5_1934 : bl5 1934 = true := by decide +kernel
theorem ck5_1935 : bl5 1935 = true := by decide +kernel
theorem ck5_1936 : bl5 1936 = true := by decide +kernel
theorem ck5_1937 : bl5 1937 = true := by decide +kernel
theorem ck5_1938 : bl5 1938 = true := by decide +kernel
theorem ck5_1939 : bl5 1939 = true := by decide +kernel
theorem ck5_1940 : bl5 1940 = true := by decide +kernel
theorem ck5_1941 : bl5 1941 = true := by decide +kernel
theorem ck5_1942 : bl5 1942 = true := by decide +kernel
theorem ck5_1943 : bl5 1943 = true := by decide +kernel
theorem ck5_1944 : bl5 1944 = true := by decide +kernel
theorem ck5_1945 : bl5 1945 = true := by decide +kernel
theorem ck5_1946 : bl5 1946 = true := by decide +kernel
theorem ck5_1947 : bl5 1947 = true := by decide +kernel
theorem ck5_1948 : bl5 1948 = true := by decide +kernel
theorem ck5_1949 : bl5 1949 = true := by decide +kernel
theorem ck5_1950 : bl5 1950 = true := by decide +kernel
theorem ck5_1951 : bl5 1951 = true := by decide +kernel
theorem ck5_1952 : bl5 1952 = true := by decide +kernel
theorem ck5_1953 : bl5 1953 = true := by decide +kernel
theorem ck5_1954 : bl5 1954 = true := by decide +kernel
theorem ck5_1955 : bl5 1955 = true := by decide +kernel
theorem ck5_1956 : bl5 1956 = true := by decide +kernel
theorem ck5_1957 : bl5 1957 = true := by decide +kernel
theorem ck5_1958 : bl5 1958 = true := by decide +kernel
theorem ck5_1959 : bl5 1959 = true := by decide +kernel
theorem ck5_1960 : bl5 1960 = true := by decide +kernel
theorem ck5_1961 : bl5 1961 = true := by decide +kernel
theorem ck5_1962 : bl5 1962 = true := by decide +kernel
theorem ck5_1963 : bl5 1963 = true := by decide +kernel
theorem ck5_1964 : bl5 1964 = true := by decide +kernel
theorem ck5_1965 : bl5 1965 = true := by decide +kernel
theorem ck5_1966 : bl5 1966 = true := by decide +kernel
theorem ck5_1967 : bl5 1967 = true := by decide +kernel
theorem ck5_1968 : bl5 1968 = true := by decide +kernel
theorem ck5_1969 : bl5 1969 = true := by decide +kernel
theorem ck5_1970 : bl5 1970 = true := by decide +kernel
theorem ck5_1971 : bl5 1971 = true := by decide +kernel
theorem ck5_1972 : bl5 1972 = true := by decide +kernel
theorem ck5_1973 : bl5 1973 = true := by decide +kernel
theorem ck5_1974 : bl5 1974 = true := by decide +kernel
theorem ck5_1975 : bl5 1975 = true := by decide +kernel
theorem ck5_1976 : bl5 1976 = true := by decide +kernel
theorem ck5_1977 : bl5 1977 = true := by decide +kernel
theorem ck5_1978 : bl5 1978 = true := by decide +kernel
theorem ck5_1979 : bl5 1979 = true := by decide +kernel
theorem ck5_1980 : bl5 1980 = true := by decide +kernel
theorem ck5_1981 : bl5 1981 = true := by decide +kernel
theorem ck5_1982 : bl5 1982 = true := by decide +kernel
theorem ck5_1983 : bl5 1983 = true := by decide +kernel
theorem ck5_1984 : bl5 1984 = true := by decide +kernel
theorem ck5_1985 : bl5 1985 = true := by decide +kernel
theorem ck5_1986 : bl5 1986 = true := by decide +kernel
theorem ck5_1987 : bl5 1987 = true := by decide +kernel
theorem ck5_1988 : bl5 1988 = true := by decide +kernel
theorem ck5_1989 : bl5 1989 = true := by decide +kernel
theorem ck5_1990 : bl5 1990 = true := by decide +kernel
theorem ck5_1991 : bl5 1991 = true := by decide +kernel
theorem ck5_1992 : bl5 1992 = true := by decide +kernel
theorem ck5_1993 : bl5 1993 = true := by decide +kernel
theorem ck5_1994 : bl5 1994 = true := by decide +kernel
theorem ck5_1995 : bl5 1995 = true := by decide +kernel
theorem ck5_1996 : bl5 1996 = true := by decide +kernel
theorem ck5_1997 : bl5 1997 = true := by decide +kernel
theorem ck5_1998 : bl5 1998 = true := by decide +kernel
theorem ck5_1999 : bl5 1999 = true := by decide +kernel
theorem ck5_2000 : bl5 2000 = true := by decide +kernel
theorem ck5_2001 : bl5 2001 = true := by decide +kernel
theorem ck5_2002 : bl5 2002 = true := by decide +kernel
theorem ck5_2003 : bl5 2003 = true := by decide +kernel
theorem ck5_2004 : bl5 2004 = true := by decide +kernel
theorem ck5_2005 : bl5 2005 = true := by decide +kernel
theorem ck5_2006 : bl5 2006 = true := by decide +kernel
theorem ck5_2007 : bl5 2007 = true := by decide +kernel
theorem ck5_2008 : bl5 2008 = true := by decide +kernel
theorem ck5_2009 : bl5 2009 = true := by decide +kernel
theorem ck5_2010 : bl5 2010 = true := by decide +kernel
theorem ck5_2011 : bl5 2011 = true := by decide +kernel
theorem ck5_2012 : bl5 2012 = true := by decide +kernel
theorem ck5_2013 : bl5 2013 = true := by decide +kernel
theorem ck5_2014 : bl5 2014 = true := by decide +kernel
theorem ck5_2015 : bl5 2015 = true := by decide +kernel
theorem ck5_2016 : bl5 2016 = true := by decide +kernel
theorem ck5_2017 : bl5 2017 = true := by decide +kernel
theorem ck5_2018 : bl5 2018 = true := by decide +kernel
theorem ck5_2019 : bl5 2019 = true := by decide +kernel
theorem ck5_2020 : bl5 2020 = true := by decide +kernel
theorem ck5_2021 : bl5 2021 = true := by decide +kernel
theorem ck5_2022 : bl5 2022 = true := by decide +kernel
theorem ck5_2023 : bl5 2023 = true := by decide +kernel
theorem ck5_2024 : bl5 2024 = true := by decide +kernel
theorem ck5_2025 : bl5 2025 = true := by decide +kernel
theorem ck5_2026 : bl5 2026 = true := by decide +kernel
theorem ck5_2027 : bl5 2027 = true := by decide +kernel
theorem ck5_2028 : bl5 2028 = true := by decide +kernel
theorem ck5_2029 : bl5 2029 = true := by decide +kernel
theorem ck5_2030 : bl5 2030 = true := by decide +kernel
theorem ck5_2031 : bl5 2031 = true := by decide +kernel
theorem ck5_2032 : bl5 2032 = true := by decide +kernel
theorem ck5_2033 : bl5 2033 = true := by decide +kernel
theorem ck5_2034 : bl5 2034 = true := by decide +kernel
theorem ck5_2035 : bl5 2035 = true := by decide +kernel
theorem ck5_2036 : bl5 2036 = true := by decide +kernel
theorem ck5_2037 : bl5 2037 = true := by decide +kernel
theorem ck5_2038 : bl5 2038 = true := by decide +kernel
theorem ck5_2039 : bl5 2039 = true := by decide +kernel
theorem ck5_2040 : bl5 2040 = true := by decide +kernel
theorem ck5_2041 : bl5 2041 = true := by decide +kernel
theorem ck5_2042 : bl5 2042 = true := by decide +kernel
theorem ck5_2043 : bl5 2043 = true := by decide +kernel
theorem ck5_2044 : bl5 2044 = true := by decide +kernel
theorem ck5_2045 : bl5 2045 = true := by decide +kernel
theorem ck5_2046 : bl5 2046 = true := by decide +kernel
theorem ck5_2047 : bl5 2047 = true := by decide +kernel
theorem ck5_2048 : bl5 2048 = true := by decide +kernel
theorem ck5_2049 : bl5 2049 = true := by decide +kernel
theorem ck5_2050 : bl5 2050 = true := by decide +kernel
theorem ck5_2051 : bl5 2051 = true := by decide +kernel
theorem ck5_2052 : bl5 2052 = true := by decide +kernel
theorem ck5_2053 : bl5 2053 = true := by decide +kernel
theorem ck5_2054 : bl5 2054 = true := by decide +kernel
theorem ck5_2055 : bl5 2055 = true := by decide +kernel
theorem ck5_2056 : bl5 2056 = true := by decide +kernel
theorem ck5_2057 : bl5 2057 = true := by decide +kernel
theorem ck5_2058 : bl5 2058 = true := by decide +kernel
theorem ck5_2059 : bl5 2059 = true := by decide +kernel
theorem ck5_2060 : bl5 2060 = true := by decide +kernel
theorem ck5_2061 : bl5 2061 = true := by decide +kernel
theorem ck5_2062 : bl5 2062 = true := by decide +kernel
theorem ck5_2063 : bl5 2063 = true := by decide +kernel
theorem ck5_2064 : bl5 2064 = true := by decide +kernel
theorem ck5_2065 : bl5 2065 = true := by decide +kernel
theorem ck5_2066 : bl5 2066 = true := by decide +kernel
theorem ck5_2067 : bl5 2067 = true := by decide +kernel
theorem ck5_2068 : bl5 2068 = true := by decide +kernel
theorem ck5_2069 : bl5 2069 = true := by decide +kernel
theorem ck5_2070 : bl5 2070 = true := by decide +kernel
theorem ck5_2071 : bl5 2071 = true := by decide +kernel
theorem ck5_2072 : bl5 2072 = true := by decide +kernel
theorem ck5_2073 : bl5 2073 = true := by decide +kernel
theorem ck5_2074 : bl5 2074 = true := by decide +kernel
theorem ck5_2075 : bl5 2075 = true := by decide +kernel
theorem ck5_2076 : bl5 2076 = true := by decide +kernel
theorem ck5_2077 : bl5 2077 = true := by decide +kernel
theorem ck5_2078 : bl5 2078 = true := by decide +kernel
theorem ck5_2079 : bl5 2079 = true := by decide +kernel
theorem ck5_2080 : bl5 2080 = true := by decide +kernel
theorem ck5_2081 : bl5 2081 = true := by decide +kernel
theorem ck5_2082 : bl5 2082 = true := by decide +kernel
theorem ck5_2083 : bl5 2083 = true := by decide +kernel
theorem ck5_2084 : bl5 2084 = true := by decide +kernel
theorem ck5_2085 : bl5 2085 = true := by decide +kernel
theorem ck5_2086 : bl5 2086 = true := by decide +kernel
theorem ck5_2087 : bl5 2087 = true := by decide +kernel
theorem ck5_2088 : bl5 2088 = true := by decide +kernel
theorem ck5_2089 : bl5 2089 = true := by decide +kernel
theorem ck5_2090 : bl5 2090 = true := by decide +kernel
theorem ck5_2091 : bl5 2091 = true := by decide +kernel
theorem ck5_2092 : bl5 2092 = true := by decide +kernel
theorem ck5_2093 : bl5 2093 = true := by decide +kernel
theorem ck5_2094 : bl5 2094 = true := by decide +kernel
theorem ck5_2095 : bl5 2095 = true := by decide +kernel
theorem ck5_2096 : bl5 2096 = true := by decide +kernel
theorem ck5_2097 : bl5 2097 = true := by decide +kernel
theorem ck5_2098 : bl5 2098 = true := by decide +kernel
theorem ck5_2099 : bl5 2099 = true := by decide +kernel
theorem ck5_2100 : bl5 2100 = true := by decide +kernel
theorem ck5_2101 : bl5 2101 = true := by decide +kernel
theorem ck5_2102 : bl5 2102 = true := by decide +kernel
theorem ck5_2103 : bl5 2103 = true := by decide +kernel
theorem ck5_2104 : bl5 2104 = true := by decide +kernel
theorem ck5_2105 : bl5 2105 = true := by decide +kernel
theorem ck5_2106 : bl5 2106 = true := by decide +kernel
theorem ck5_2107 : bl5 2107 = true := by decide +kernel
theorem ck5_2108 : bl5 2108 = true := by decide +kernel
theorem ck5_2109 : bl5 2109 = true := by decide +kernel
theorem ck5_2110 : bl5 2110 = true := by decide +kernel
theorem ck5_2111 : bl5 2111 = true := by decide +kernel
theorem ck5_2112 : bl5 2112 = true := by decide +kernel
theorem ck5_2113 : bl5 2113 = true := by decide +kernel
theorem ck5_2114 : bl5 2114 = true := by decide +kernel
theorem ck5_2115 : bl5 2115 = true := by decide +kernel
theorem ck5_2116 : bl5 2116 = true := by decide +kernel
theorem ck5_2117 : bl5 2117 = true := by decide +kernel
theorem ck5_2118 : bl5 2118 = true := by decide +kernel
theorem ck5_2119 : bl5 2119 = true := by decide +kernel
theorem ck5_2120 : bl5 2120 = true := by decide +kernel
theorem ck5_2121 : bl5 2121 = true := by decide +kernel
theorem ck5_2122 : bl5 2122 = true := by decide +kernel
theorem ck5_2123 : bl5 2123 = true := by decide +kernel
theorem ck5_2124 : bl5 2124 = true := by decide +kernel
theorem ck5_2125 : bl5 2125 = true := by decide +kernel
theorem ck5_2126 : bl5 2126 = true := by decide +kernel
theorem ck5_2127 : bl5 2127 = true := by decide +kernel
theorem ck5_2128 : bl5 2128 = true := by decide +kernel
theorem ck5_2129 : bl5 2129 = true := by decide +kernel
theorem ck5_2130 : bl5 2130 = true := by decide +kernel
theorem ck5_2131 : bl5 2131 = true := by decide +kernel
theorem ck5_2132 : bl5 2132 = true := by decide +kernel
theorem ck5_2133 : bl5 2133 = true := by decide +kernel
theorem ck5_2134 : bl5 2134 = true := by decide +kernel
theorem ck5_2135 : bl5 2135 = true := by decide +kernel
theorem ck5_2136 : bl5 2136 = true := by decide +kernel
theorem ck5_2137 : bl5 2137 = true := by decide +kernel
theorem ck5_2138 : bl5 2138 = true := by decide +kernel
theorem ck5_2139 : bl5 2139 = true := by decide +kernel
theorem ck5_2140 : bl5 2140 = true := by decide +kernel
theorem ck5_2141 : bl5 2141 = true := by decide +kernel
theorem ck5_2142 : bl5 2142 = true := by decide +kernel
theorem ck5_2143 : bl5 2143 = true := by decide +kernel
theorem ck5_2144 : bl5 2144 = true := by decide +kernel
theorem ck5_2145 : bl5 2145 = true := by decide +kernel
theorem ck5_2146 : bl5 2146 = true := by decide +kernel
theorem ck5_2147 : bl5 2147 = true := by decide +kernel
theorem ck5_2148 : bl5 2148 = true := by decide +kernel
theorem ck5_2149 : bl5 2149 = true := by decide +kernel
theorem ck5_2150 : bl5 2150 = true := by decide +kernel
theorem ck5_2151 : bl5 2151 = true := by decide +kernel
theorem ck5_2152 : bl5 2152 = true := by decide +kernel
theorem ck5_2153 : bl5 2153 = true := by decide +kernel
theorem ck5_2154 : bl5 2154 = true := by decide +kernel
theorem ck5_2155 : bl5 2155 = true := by decide +kernel
theorem ck5_2156 : bl5 2156 = true := by decide +kernel
theorem ck5_2157 : bl5 2157 = true := by decide +kernel
theorem ck5_2158 : bl5 2158 = true := by decide +kernel
theorem ck5_2159 : bl5 2159 = true := by decide +kernel
theorem ck5_2160 : bl5 2160 = true := by decide +kernel
theorem ck5_2161 : bl5 2161 = true := by decide +kernel
theorem ck5_2162 : bl5 2162 = true := by decide +kernel
theorem ck5_2163 : bl5 2163 = true := by decide +kernel
theorem ck5_2164 : bl5 2164 = true := by decide +kernel
theorem ck5_2165 : bl5 2165 = true := by decide +kernel
theorem ck5_2166 : bl5 2166 = true := by decide +kernel
theorem ck5_2167 : bl5 2167 = true := by decide +kernel
theorem ck5_2168 : bl5 2168 = true := by decide +kernel
theorem ck5_2169 : bl5 2169 = true := by decide +kernel
theorem ck5_2170 : bl5 2170 = true := by decide +kernel
theorem ck5_2171 : bl5 2171 = true := by decide +kernel
theorem ck5_2172 : bl5 2172 = true := by decide +kernel
theorem ck5_2173 : bl5 2173 = true := by decide +kernel
theorem ck5_2174 : bl5 2174 = true := by decide +kernel
theorem ck5_2175 : bl5 2175 = true := by decide +kernel
theorem ck5_2176 : bl5 2176 = true := by decide +kernel
theorem ck5_2177 : bl5 2177 = true := by decide +kernel
theorem ck5_2178 : bl5 2178 = true := by decide +kernel
theorem ck5_2179 : bl5 2179 = true := by decide +kernel
theorem ck5_2180 : bl5 2180 = true := by decide +kernel
theorem ck5_2181 : bl5 2181 = true := by decide +kernel
theorem ck5_2182 : bl5 2182 = true := by decide +kernel
theorem ck5_2183 : bl5 2183 = true := by decide +kernel
theorem ck5_2184 : bl5 2184 = true := by decide +kernel
theorem ck5_2185 : bl5 2185 = true := by decide +kernel
theorem ck5_2186 : bl5 2186 = true := by decide +kernel
theorem ck5_2187 : bl5 2187 = true := by decide +kernel
theorem ck5_2188 : bl5 2188 = true := by decide +kernel
theorem ck5_2189 : bl5 2189 = true := by decide +kernel
theorem ck5_2190 : bl5 2190 = true := by decide +kernel
theorem ck5_2191 : bl5 2191 = true := by decide +kernel
theorem ck5_2192 : bl5 2192 = true := by decide +kernel
theorem ck5_2193 : bl5 2193 = true := by decide +kernel
theorem ck5_2194 : bl5 2194 = true := by decide +kernel
theorem ck5_2195 : bl5 2195 = true := by decide +kernel
theorem ck5_2196 : bl5 2196 = true := by decide +kernel
theorem ck5_2197 : bl5 2197 = true := by decide +kernel
theorem ck5_2198 : bl5 2198 = true := by decide +kernel
theorem ck5_2199 : bl5 2199 = true := by decide +kernel
theorem ck5_2200 : bl5 2200 = true := by decide +kernel
theorem ck5_2201 : bl5 2201 = true := by decide +kernel
theorem ck5_2202 : bl5 2202 = true := by decide +kernel
theorem ck5_2203 : bl5 2203 = true := by decide +kernel
theorem ck5_2204 : bl5 2204 = true := by decide +kernel
theorem ck5_2205 : bl5 2205 = true := by decide +kernel
theorem ck5_2206 : bl5 2206 = true := by decide +kernel
theorem ck5_2207 : bl5 2207 = true := by decide +kernel
theorem ck5_2208 : bl5 2208 = true := by decide +kernel
theorem ck5_2209 : bl5 2209 = true := by decide +kernel
theorem ck5_2210 : bl5 2210 = true := by decide +kernel
theorem ck5_2211 : bl5 2211 = true := by decide +kernel
theorem ck5_2212 : bl5 2212 = true := by decide +kernel
theorem ck5_2213 : bl5 2213 = true := by decide +kernel
theorem ck5_2214 : bl5 2214 = true := by decide +kernel
theorem ck5_2215 : bl5 2215 = true := by decide +kernel
theorem ck5_2216 : bl5 2216 = true := by decide +kernel
theorem ck5_2217 : bl5 2217 = true := by decide +kernel
theorem ck5_2218 : bl5 2218 = true := by decide +kernel
theorem ck5_2219 : bl5 2219 = true := by decide +kernel
theorem ck5_2220 : bl5 2220 = true := by decide +kernel
theorem ck5_2221 : bl5 2221 = true := by decide +kernel
theorem ck5_2222 : bl5 2222 = true := by decide +kernel
theorem ck5_2223 : bl5 2223 = true := by decide +kernel
theorem ck5_2224 : bl5 2224 = true := by decide +kernel
theorem ck5_2225 : bl5 2225 = true := by decide +kernel
theorem ck5_2226 : bl5 2226 = true := by decide +kernel
theorem ck5_2227 : bl5 2227 = true := by decide +kernel
theorem ck5_2228 : bl5 2228 = true := by decide +kernel
theorem ck5_2229 : bl5 2229 = true := by decide +kernel
theorem ck5_2230 : bl5 2230 = true := by decide +kernel
theorem ck5_2231 : bl5 2231 = true := by decide +kernel
theorem ck5_2232 : bl5 2232 = true := by decide +kernel
theorem ck5_2233 : bl5 2233 = true := by decide +kernel
theorem ck5_2234 : bl5 2234 = true := by decide +kernel
theorem ck5_2235 : bl5 2235 = true := by decide +kernel
theorem ck5_2236 : bl5 2236 = true := by decide +kernel
theorem ck5_2237 : bl5 2237 = true := by decide +kernel
theorem ck5_2238 : bl5 2238 = true := by decide +kernel
theorem ck5_2239 : bl5 2239 = true := by decide +kernel
theorem ck5_2240 : bl5 2240 = true := by decide +kernel
theorem ck5_2241 : bl5 2241 = true := by decide +kernel
theorem ck5_2242 : bl5 2242 = true := by decide +kernel
theorem ck5_2243 : bl5 2243 = true := by decide +kernel
theorem ck5_2244 : bl5 2244 = true := by decide +kernel
theorem ck5_2245 : bl5 2245 = true := by decide +kernel
theorem ck5_2246 : bl5 2246 = true := by decide +kernel
theorem ck5_2247 : bl5 2247 = true := by decide +kernel
theorem ck5_2248 : bl5 2248 = true := by decide +kernel
theorem ck5_2249 : bl5 2249 = true := by decide +kernel
theorem ck5_2250 : bl5 2250 = true := by decide +kernel
theorem ck5_2251 : bl5 2251 = true := by decide +kernel
theorem ck5_2252 : bl5 2252 = true := by decide +kernel
theorem ck5_2253 : bl5 2253 = true := by decide +kernel
theorem ck5_2254 : bl5 2254 = true := by decide +kernel
theorem ck5_2255 : bl5 2255 = true := by decide +kernel
theorem ck5_2256 : bl5 2256 = true := by decide +kernel
theorem ck5_2257 : bl5 2257 = true := by decide +kernel
theorem ck5_2258 : bl5 2258 = true := by decide +kernel
theorem ck5_2259 : bl5 2259 = true := by decide +kernel
theorem ck5_2260 : bl5 2260 = true := by decide +kernel
theorem ck5_2261 : bl5 2261 = true := by decide +kernel
theorem ck5_2262 : bl5 2262 = true := by decide +kernel
theorem ck5_2263 : bl5 2263 = true := by decide +kernel
theorem ck5_2264 : bl5 2264 = true := by decide +kernel
theorem ck5_2265 : bl5 2265 = true := by decide +kernel
theorem ck5_2266 : bl5 2266 = true := by decide +kernel
theorem ck5_2267 : bl5 2267 = true := by decide +kernel
theorem ck5_2268 : bl5 2268 = true := by decide +kernel
theorem ck5_2269 : bl5 2269 = true := by decide +kernel
theorem ck5_2270 : bl5 2270 = true := by decide +kernel
theorem ck5_2271 : bl5 2271 = true := by decide +kernel
theorem ck5_2272 : bl5 2272 = true := by decide +kernel
theorem ck5_2273 : bl5 2273 = true := by decide +kernel
theorem ck5_2274 : bl5 2274 = true := by decide +kernel
theorem ck5_2275 : bl5 2275 = true := by decide +kernel
theorem ck5_2276 : bl5 2276 = true := by decide +kernel
theorem ck5_2277 : bl5 2277 = true := by decide +kernel
theorem ck5_2278 : bl5 2278 = true := by decide +kernel
theorem ck5_2279 : bl5 2279 = true := by decide +kernel
theorem ck5_2280 : bl5 2280 = true := by decide +kernel
theorem ck5_2281 : bl5 2281 = true := by decide +kernel
theorem ck5_2282 : bl5 2282 = true := by decide +kernel
theorem ck5_2283 : bl5 2283 = true := by decide +kernel
theorem ck5_2284 : bl5 2284 = true := by decide +kernel
theorem ck5_2285 : bl5 2285 = true := by decide +kernel
theorem ck5_2286 : bl5 2286 = true := by decide +kernel
theorem ck5_2287 : bl5 2287 = true := by decide +kernel
theorem ck5_2288 : bl5 2288 = true := by decide +kernel
theorem ck5_2289 : bl5 2289 = true := by decide +kernel
theorem ck5_2290 : bl5 2290 = true := by decide +kernel
theorem ck5_2291 : bl5 2291 = true := by decide +kernel
theorem ck5_2292 : bl5 2292 = true := by decide +kernel
theorem ck5_2293 : bl5 2293 = true := by decide +kernel
theorem ck5_2294 : bl5 2294 = true := by decide +kernel
theorem ck5_2295 : bl5 2295 = true := by decide +kernel
theorem ck5_2296 : bl5 2296 = true := by decide +kernel
theorem ck5_2297 : bl5 2297 = true := by decide +kernel
theorem ck5_2298 : bl5 2298 = true := by decide +kernel
theorem ck5_2299 : bl5 2299 = true := by decide +kernel
theorem ck5_2300 : bl5 2300 = true := by decide +kernel
theorem ck5_2301 : bl5 2301 = true := by decide +kernel
theorem ck5_2302 : bl5 2302 = true := by decide +kernel
theorem ck5_2303 : bl5 2303 = true := by decide +kernel
theorem ck5_2304 : bl5 2304 = true := by decide +kernel
theorem ck5_2305 : bl5 2305 = true := by decide +kernel
theorem ck5_2306 : bl5 2306 = true := by decide +kernel
theorem ck5_2307 : bl5 2307 = true := by decide +kernel
theorem ck5_2308 : bl5 2308 = true := by decide +kernel
theorem ck5_2309 : bl5 2309 = true := by decide +kernel
theorem ck5_2310 : bl5 2310 = true := by decide +kernel
theorem ck5_2311 : bl5 2311 = true := by decide +kernel
theorem ck5_2312 : bl5 2312 = true := by decide +kernel
theorem ck5_2313 : bl5 2313 = true := by decide +kernel
theorem ck5_2314 : bl5 2314 = true := by decide +kernel
theorem ck5_2315 : bl5 2315 = true := by decide +kernel
theorem ck5_2316 : bl5 2316 = true := by decide +kernel
theorem ck5_2317 : bl5 2317 = true := by decide +kernel
theorem ck5_2318 : bl5 2318 = true := by decide +kernel
theorem ck5_2319 : bl5 2319 = true := by decide +kernel
theorem ck5_2320 : bl5 2320 = true := by decide +kernel
theorem ck5_2321 : bl5 2321 = true := by decide +kernel
theorem ck5_2322 : bl5 2322 = true := by decide +kernel
theorem ck5_2323 : bl5 2323 = true := by decide +kernel
theorem ck5_2324 : bl5 2324 = true := by decide +kernel
theorem ck5_2325 : bl5 2325 = true := by decide +kernel
theorem ck5_2326 : bl5 2326 = true := by decide +kernel
theorem ck5_2327 : bl5 2327 = true := by decide +kernel
theorem ck5_2328 : bl5 2328 = true := by decide +kernel
theorem ck5_2329 : bl5 2329 = true := by decide +kernel
theorem ck5_2330 : bl5 2330 = true := by decide +kernel
theorem ck5_2331 : bl5 2331 = true := by decide +kernel
theorem ck5_2332 : bl5 2332 = true := by decide +kernel
theorem ck5_2333 : bl5 2333 = true := by decide +kernel
theorem ck5_2334 : bl5 2334 = true := by decide +kernel
theorem ck5_2335 : bl5 2335 = true := by decide +kernel
theorem ck5_2336 : bl5 2336 = true := by decide +kernel
theorem ck5_2337 : bl5 2337 = true := by decide +kernel
theorem ck5_2338 : bl5 2338 = true := by decide +kernel
theorem ck5_2339 : bl5 2339 = true := by decide +kernel
theorem ck5_2340 : bl5 2340 = true := by decide +kernel
theorem ck5_2341 : bl5 2341 = true := by decide +kernel
theorem ck5_2342 : bl5 2342 = true := by decide +kernel
theorem ck5_2343 : bl5 2343 = true := by decide +kernel
theorem ck5_2344 : bl5 2344 = true := by decide +kernel
theorem ck5_2345 : bl5 2345 = true := by decide +kernel
theorem ck5_2346 : bl5 2346 = true := by decide +kernel
theorem ck5_2347 : bl5 2347 = true := by decide +kernel
theorem ck5_2348 : bl5 2348 = true := by decide +kernel
theorem ck5_2349 : bl5 2349 = true := by decide +kernel
theorem ck5_2350 : bl5 2350 = true := by decide +kernel
theorem ck5_2351 : bl5 2351 = true := by decide +kernel
theorem ck5_2352 : bl5 2352 = true := by decide +kernel
theorem ck5_2353 : bl5 2353 = true := by decide +kernel
theorem ck5_2354 : bl5 2354 = true := by decide +kernel
theorem ck5_2355 : bl5 2355 = true := by decide +kernel
theorem ck5_2356 : bl5 2356 = true := by decide +kernel
theorem ck5_2357 : bl5 2357 = true := by decide +kernel
theorem ck5_2358 : bl5 2358 = true := by decide +kernel
theorem ck5_2359 : bl5 2359 = true := by decide +kernel
theorem ck5_2360 : bl5 2360 = true := by decide +kernel
theorem ck5_2361 : bl5 2361 = true := by decide +kernel
theorem ck5_2362 : bl5 2362 = true := by decide +kernel
theorem ck5_2363 : bl5 2363 = true := by decide +kernel
theorem ck5_2364 : bl5 2364 = true := by decide +kernel
theorem ck5_2365 : bl5 2365 = true := by decide +kernel
theorem ck5_2366 : bl5 2366 = true := by decide +kernel
theorem ck5_2367 : bl5 2367 = true := by decide +kernel
theorem ck5_2368 : bl5 2368 = true := by decide +kernel
theorem ck5_2369 : bl5 2369 = true := by decide +kernel
theorem ck5_2370 : bl5 2370 = true := by decide +kernel
theorem ck5_2371 : bl5 2371 = true := by decide +kernel
theorem ck5_2372 : bl5 2372 = true := by decide +kernel
theorem ck5_2373 : bl5 2373 = true := by decide +kernel
theorem ck5_2374 : bl5 2374 = true := by decide +kernel
theorem ck5_2375 : bl5 2375 = true := by decide +kernel
theorem ck5_2376 : bl5 2376 = true := by decide +kernel
theorem ck5_2377 : bl5 2377 = true := by decide +kernel
theorem ck5_2378 : bl5 2378 = true := by decide +kernel
theorem ck5_2379 : bl5 2379 = true := by decide +kernel
theorem ck5_2380 : bl5 2380 = true := by decide +kernel
theorem ck5_2381 : bl5 2381 = true := by decide +kernel
theorem ck5_2382 : bl5 2382 = true := by decide +kernel
theorem ck5_2383 : bl5 2383 = true := by decide +kernel
theorem ck5_2384 : bl5 2384 = true := by decide +kernel
theorem ck5_2385 : bl5 2385 = true := by decide +kernel
theorem ck5_2386 : bl5 2386 = true := by decide +kernel
theorem ck5_2387 : bl5 2387 = true := by decide +kernel
theorem ck5_2388 : bl5 2388 = true := by decide +kernel
theorem ck5_2389 : bl5 2389 = true := by decide +kernel
theorem ck5_2390 : bl5 2390 = true := by decide +kernel
theorem ck5_2391 : bl5 2391 = true := by decide +kernel
theorem ck5_2392 : bl5 2392 = true := by decide +kernel
theorem ck5_2393 : bl5 2393 = true := by decide +kernel
theorem ck5_2394 : bl5 2394 = true := by decide +kernel
theorem ck5_2395 : bl5 2395 = true := by decide +kernel
theorem ck5_2396 : bl5 2396 = true := by decide +kernel
theorem ck5_2397 : bl5 2397 = true := by decide +kernel
theorem ck5_2398 : bl5 2398 = true := by decide +kernel
theorem ck5_2399 : bl5 2399 = true := by decide +kernel
theorem ck5_2400 : bl5 2400 = true := by decide +kernel
theorem ck5_2401 : bl5 2401 = true := by decide +kernel
theorem ck5_2402 : bl5 2402 = true := by decide +kernel
theorem ck5_2403 : bl5 2403 = true := by decide +kernel
theorem ck5_2404 : bl5 2404 = true := by decide +kernel
theorem ck5_2405 : bl5 2405 = true := by decide +kernel
theorem ck5_2406 : bl5 2406 = true := by decide +kernel
theorem ck5_2407 : bl5 2407 = true := by decide +kernel
theorem ck5_2408 : bl5 2408 = true := by decide +kernel
theorem ck5_2409 : bl5 2409 = true := by decide +kernel
theorem ck5_2410 : bl5 2410 = true := by decide +kernel
theorem ck5_2411 : bl5 2411 = true := by decide +kernel
theorem ck5_2412 : bl5 2412 = true := by decide +kernel
theorem ck5_2413 : bl5 2413 = true := by decide +kernel
theorem ck5_2414 : bl5 2414 = true := by decide +kernel
theorem ck5_2415 : bl5 2415 = true := by decide +kernel
theorem ck5_2416 : bl5 2416 = true := by decide +kernel
theorem ck5_2417 : bl5 2417 = true := by decide +kernel
theorem ck5_2418 : bl5 2418 = true := by decide +kernel
theorem ck5_2419 : bl5 2419 = true := by decide +kernel
theorem ck5_2420 : bl5 2420 = true := by decide +kernel
theorem ck5_2421 : bl5 2421 = true := by decide +kernel
theorem ck5_2422 : bl5 2422 = true := by decide +kernel
theorem ck5_2423 : bl5 2423 = true := by decide +kernel
theorem ck5_2424 : bl5 2424 = true := by decide +kernel
theorem ck5_2425 : bl5 2425 = true := by decide +kernel
theorem ck5_2426 : bl5 2426 = true := by decide +kernel
theorem ck5_2427 : bl5 2427 = true := by decide +kernel
theorem ck5_2428 : bl5 2428 = true := by decide +kernel
theorem ck5_2429 : bl5 2429 = true := by decide +kernel
theorem ck5_2430 : bl5 2430 = true := by decide +kernel
theorem ck5_2431 : bl5 2431 = true := by decide +kernel
theorem ck5_2432 : bl5 2432 = true := by decide +kernel
theorem ck5_2433 : bl5 2433 = true := by decide +kernel
theorem ck5_2434 : bl5 2434 = true := by decide +kernel
theorem ck5_2435 : bl5 2435 = true := by decide +kernel
theorem ck5_2436 : bl5 2436 = true := by decide +kernel
theorem ck5_2437 : bl5 2437 = true := by decide +kernel
theorem ck5_2438 : bl5 2438 = true := by decide +kernel
theorem ck5_2439 : bl5 2439 = true := by decide +kernel
theorem ck5_2440 : bl5 2440 = true := by decide +kernel
theorem ck5_2441 : bl5 2441 = true := by decide +kernel
theorem ck5_2442 : bl5 2442 = true := by decide +kernel
theorem ck5_2443 : bl5 2443 = true := by decide +kernel
theorem ck5_2444 : bl5 2444 = true := by decide +kernel
theorem ck5_2445 : bl5 2445 = true := by decide +kernel
theorem ck5_2446 : bl5 2446 = true := by decide +kernel
theorem ck5_2447 : bl5 2447 = true := by decide +kernel
theorem ck5_2448 : bl5 2448 = true := by decide +kernel
theorem ck5_2449 : bl5 2449 = true := by decide +kernel
theorem ck5_2450 : bl5 2450 = true := by decide +kernel
theorem ck5_2451 : bl5 2451 = true := by decide +kernel
theorem ck5_2452 : bl5 2452 = true := by decide +kernel
theorem ck5_2453 : bl5 2453 = true := by decide +kernel
theorem ck5_2454 : bl5 2454 = true := by decide +kernel
theorem ck5_2455 : bl5 2455 = true := by decide +kernel
theorem ck5_2456 : bl5 2456 = true := by decide +kernel
theorem ck5_2457 : bl5 2457 = true := by decide +kernel
theorem ck5_2458 : bl5 2458 = true := by decide +kernel
theorem ck5_2459 : bl5 2459 = true := by decide +kernel
theorem ck5_2460 : bl5 2460 = true := by decide +kernel
theorem ck5_2461 : bl5 2461 = true := by decide +kernel
theorem ck5_2462 : bl5 2462 = true := by decide +kernel
theorem ck5_2463 : bl5 2463 = true := by decide +kernel
theorem ck5_2464 : bl5 2464 = true := by decide +kernel
theorem ck5_2465 : bl5 2465 = true := by decide +kernel
theorem ck5_2466 : bl5 2466 = true := by decide +kernel
theorem ck5_2467 : bl5 2467 = true := by decide +kernel
theorem ck5_2468 : bl5 2468 = true := by decide +kernel
theorem ck5_2469 : bl5 2469 = true := by decide +kernel
theorem ck5_2470 : bl5 2470 = true := by decide +kernel
theorem ck5_2471 : bl5 2471 = true := by decide +kernel
theorem ck5_2472 : bl5 2472 = true := by decide +kernel
theorem ck5_2473 : bl5 2473 = true := by decide +kernel
theorem ck5_2474 : bl5 2474 = true := by decide +kernel
theorem ck5_2475 : bl5 2475 = true := by decide +kernel
theorem ck5_2476 : bl5 2476 = true := by decide +kernel
theorem ck5_2477 : bl5 2477 = true := by decide +kernel
theorem ck5_2478 : bl5 2478 = true := by decide +kernel
theorem ck5_2479 : bl5 2479 = true := by decide +kernel
theorem ck5_2480 : bl5 2480 = true := by decide +kernel
theorem ck5_2481 : bl5 2481 = true := by decide +kernel
theorem ck5_2482 : bl5 2482 = true := by decide +kernel
theorem ck5_2483 : bl5 2483 = true := by decide +kernel
theorem ck5_2484 : bl5 2484 = true := by decide +kernel
theorem ck5_2485 : bl5 2485 = true := by decide +kernel
theorem ck5_2486 : bl5 2486 = true := by decide +kernel
theorem ck5_2487 : bl5 2487 = true := by decide +kernel
theorem ck5_2488 : bl5 2488 = true := by decide +kernel
theorem ck5_2489 : bl5 2489 = true := by decide +kernel
theorem ck5_2490 : bl5 2490 = true := by decide +kernel
theorem ck5_2491 : bl5 2491 = true := by decide +kernel
theorem ck5_2492 : bl5 2492 = true := by decide +kernel
theorem ck5_2493 : bl5 2493 = true := by decide +kernel
theorem ck5_2494 : bl5 2494 = true := by decide +kernel
theorem ck5_2495 : bl5 2495 = true := by decide +kernel
theorem ck5_2496 : bl5 2496 = true := by decide +kernel
theorem ck5_2497 : bl5 2497 = true := by decide +kernel
theorem ck5_2498 : bl5 2498 = true := by decide +kernel
theorem ck5_2499 : bl5 2499 = true := by decide +kernel
theorem ck5_2500 : bl5 2500 = true := by decide +kernel
theorem ck5_2501 : bl5 2501 = true := by decide +kernel
theorem ck5_2502 : bl5 2502 = true := by decide +kernel
theorem ck5_2503 : bl5 2503 = true := by decide +kernel
theorem ck5_2504 : bl5 2504 = true := by decide +kernel
theorem ck5_2505 : bl5 2505 = true := by decide +kernel
theorem ck5_2506 : bl5 2506 = true := by decide +kernel
theorem ck5_2507 : bl5 2507 = true := by decide +kernel
theorem ck5_2508 : bl5 2508 = true := by decide +kernel
theorem ck5_2509 : bl5 2509 = true := by decide +kernel
theorem ck5_2510 : bl5 2510 = true := by decide +kernel
theorem ck5_2511 : bl5 2511 = true := by decide +kernel
theorem ck5_2512 : bl5 2512 = true := by decide +kernel
theorem ck5_2513 : bl5 2513 = true := by decide +kernel
theorem ck5_2514 : bl5 2514 = true := by decide +kernel
theorem ck5_2515 : bl5 2515 = true := by decide +kernel
theorem ck5_2516 : bl5 2516 = true := by decide +kernel
theorem ck5_2517 : bl5 2517 = true := by decide +kernel
theorem ck5_2518 : bl5 2518 = true := by decide +kernel
theorem ck5_2519 : bl5 2519 = true := by decide +kernel
theorem ck5_2520 : bl5 2520 = true := by decide +kernel
theorem ck5_2521 : bl5 2521 = true := by decide +kernel
theorem ck5_2522 : bl5 2522 = true := by decide +kernel
theorem ck5_2523 : bl5 2523 = true := by decide +kernel
theorem ck5_2524 : bl5 2524 = true := by decide +kernel
theorem ck5_2525 : bl5 2525 = true := by decide +kernel
theorem ck5_2526 : bl5 2526 = true := by decide +kernel
theorem ck5_2527 : bl5 2527 = true := by decide +kernel
theorem ck5_2528 : bl5 2528 = true := by decide +kernel
theorem ck5_2529 : bl5 2529 = true := by decide +kernel
theorem ck5_2530 : bl5 2530 = true := by decide +kernel
theorem ck5_2531 : bl5 2531 = true := by decide +kernel
theorem ck5_2532 : bl5 2532 = true := by decide +kernel
theorem ck5_2533 : bl5 2533 = true := by decide +kernel
theorem ck5_2534 : bl5 2534 = true := by decide +kernel
theorem ck5_2535 : bl5 2535 = true := by decide +kernel
theorem ck5_2536 : bl5 2536 = true := by decide +kernel
theorem ck5_2537 : bl5 2537 = true := by decide +kernel
theorem ck5_2538 : bl5 2538 = true := by decide +kernel
theorem ck5_2539 : bl5 2539 = true := by decide +kernel
theorem ck5_2540 : bl5 2540 = true := by decide +kernel
theorem ck5_2541 : bl5 2541 = true := by decide +kernel
theorem ck5_2542 : bl5 2542 = true := by decide +kernel
theorem ck5_2543 : bl5 2543 = true := by decide +kernel
theorem ck5_2544 : bl5 2544 = true := by decide +kernel
theorem ck5_2545 : bl5 2545 = true := by decide +kernel
theorem ck5_2546 : bl5 2546 = true := by decide +kernel
theorem ck5_2547 : bl5 2547 = true := by decide +kernel
theorem ck5_2548 : bl5 2548 = true := by decide +kernel
theorem ck5_2549 : bl5 2549 = true := by decide +kernel
theorem ck5_2550 : bl5 2550 = true := by decide +kernel
theorem ck5_2551 : bl5 2551 = true := by decide +kernel
theorem ck5_2552 : bl5 2552 = true := by decide +kernel
theorem ck5_2553 : bl5 2553 = true := by decide +kernel
theorem ck5_2554 : bl5 2554 = true := by decide +kernel
theorem ck5_2555 : bl5 2555 = true := by decide +kernel
theorem ck5_2556 : bl5 2556 = true := by decide +kernel
theorem ck5_2557 : bl5 2557 = true := by decide +kernel
theorem ck5_2558 : bl5 2558 = true := by decide +kernel
theorem ck5_2559 : bl5 2559 = true := by decide +kernel
theorem ck5_2560 : bl5 2560 = true := by decide +kernel
theorem ck5_2561 : bl5 2561 = true := by decide +kernel
theorem ck5_2562 : bl5 2562 = true := by decide +kernel
theorem ck5_2563 : bl5 2563 = true := by decide +kernel
theorem ck5_2564 : bl5 2564 = true := by decide +kernel
theorem ck5_2565 : bl5 2565 = true := by decide +kernel
theorem ck5_2566 : bl5 2566 = true := by decide +kernel
theorem ck5_2567 : bl5 2567 = true := by decide +kernel
theorem ck5_2568 : bl5 2568 = true := by decide +kernel
theorem ck5_2569 : bl5 2569 = true := by decide +kernel
theorem ck5_2570 : bl5 2570 = true := by decide +kernel
theorem ck5_2571 : bl5 2571 = true := by decide +kernel
theorem ck5_2572 : bl5 2572 = true := by decide +kernel
theorem ck5_2573 : bl5 2573 = true := by decide +kernel
theorem ck5_2574 : bl5 2574 = true := by decide +kernel
theorem ck5_2575 : bl5 2575 = true := by decide +kernel
theorem ck5_2576 : bl5 2576 = true := by decide +kernel
theorem ck5_2577 : bl5 2577 = true := by decide +kernel
theorem ck5_2578 : bl5 2578 = true := by decide +kernel
theorem ck5_2579 : bl5 2579 = true := by decide +kernel
theorem ck5_2580 : bl5 2580 = true := by decide +kernel
theorem ck5_2581 : bl5 2581 = true := by decide +kernel
theorem ck5_2582 : bl5 2582 = true := by decide +kernel
theorem ck5_2583 : bl5 2583 = true := by decide +kernel
theorem ck5_2584 : bl5 2584 = true := by decide +kernel
theorem ck5_2585 : bl5 2585 = true := by decide +kernel
theorem ck5_2586 : bl5 2586 = true := by decide +kernel
theorem ck5_2587 : bl5 2587 = true := by decide +kernel
theorem ck5_2588 : bl5 2588 = true := by decide +kernel
theorem ck5_2589 : bl5 2589 = true := by decide +kernel
theorem ck5_2590 : bl5 2590 = true := by decide +kernel
theorem ck5_2591 : bl5 2591 = true := by decide +kernel
theorem ck5_2592 : bl5 2592 = true := by decide +kernel
theorem ck5_2593 : bl5 2593 = true := by decide +kernel
theorem ck5_2594 : bl5 2594 = true := by decide +kernel
theorem ck5_2595 : bl5 2595 = true := by decide +kernel
theorem ck5_2596 : bl5 2596 = true := by decide +kernel
theorem ck5_2597 : bl5 2597 = true := by decide +kernel
theorem ck5_2598 : bl5 2598 = true := by decide +kernel
theorem ck5_2599 : bl5 2599 = true := by decide +kernel
theorem ck5_2600 : bl5 2600 = true := by decide +kernel
theorem ck5_2601 : bl5 2601 = true := by decide +kernel
theorem ck5_2602 : bl5 2602 = true := by decide +kernel
theorem ck5_2603 : bl5 2603 = true := by decide +kernel
theorem ck5_2604 : bl5 2604 = true := by decide +kernel
theorem ck5_2605 : bl5 2605 = true := by decide +kernel
theorem ck5_2606 : bl5 2606 = true := by decide +kernel
theorem ck5_2607 : bl5 2607 = true := by decide +kernel
theorem ck5_2608 : bl5 2608 = true := by decide +kernel
theorem ck5_2609 : bl5 2609 = true := by decide +kernel
theorem ck5_2610 : bl5 2610 = true := by decide +kernel
theorem ck5_2611 : bl5 2611 = true := by decide +kernel
theorem ck5_2612 : bl5 2612 = true := by decide +kernel
theorem ck5_2613 : bl5 2613 = true := by decide +kernel
theorem ck5_2614 : bl5 2614 = true := by decide +kernel
theorem ck5_2615 : bl5 2615 = true := by decide +kernel
theorem ck5_2616 : bl5 2616 = true := by decide +kernel
theorem ck5_2617 : bl5 2617 = true := by decide +kernel
theorem ck5_2618 : bl5 2618 = true := by decide +kernel
theorem ck5_2619 : bl5 2619 = true := by decide +kernel
theorem ck5_2620 : bl5 2620 = true := by decide +kernel
theorem ck5_2621 : bl5 2621 = true := by decide +kernel
theorem ck5_2622 : bl5 2622 = true := by decide +kernel
theorem ck5_2623 : bl5 2623 = true := by decide +kernel
theorem ck5_2624 : bl5 2624 = true := by decide +kernel
theorem ck5_2625 : bl5 2625 = true := by decide +kernel
theorem ck5_2626 : bl5 2626 = true := by decide +kernel
theorem ck5_2627 : bl5 2627 = true := by decide +kernel
theorem ck5_2628 : bl5 2628 = true := by decide +kernel
theorem ck5_2629 : bl5 2629 = true := by decide +kernel
theorem ck5_2630 : bl5 2630 = true := by decide +kernel
theorem ck5_2631 : bl5 2631 = true := by decide +kernel
theorem ck5_2632 : bl5 2632 = true := by decide +kernel
theorem ck5_2633 : bl5 2633 = true := by decide +kernel
theorem ck5_2634 : bl5 2634 = true := by decide +kernel
theorem ck5_2635 : bl5 2635 = true := by decide +kernel
theorem ck5_2636 : bl5 2636 = true := by decide +kernel
theorem ck5_2637 : bl5 2637 = true := by decide +kernel
theorem ck5_2638 : bl5 2638 = true := by decide +kernel
theorem ck5_2639 : bl5 2639 = true := by decide +kernel
theorem ck5_2640 : bl5 2640 = true := by decide +kernel
theorem ck5_2641 : bl5 2641 = true := by decide +kernel
theorem ck5_2642 : bl5 2642 = true := by decide +kernel
theorem ck5_2643 : bl5 2643 = true := by decide +kernel
theorem ck5_2644 : bl5 2644 = true := by decide +kernel
theorem ck5_2645 : bl5 2645 = true := by decide +kernel
theorem ck5_2646 : bl5 2646 = true := by decide +kernel
theorem ck5_2647 : bl5 2647 = true := by decide +kernel
theorem ck5_2648 : bl5 2648 = true := by decide +kernel
theorem ck5_2649 : bl5 2649 = true := by decide +kernel
theorem ck5_2650 : bl5 2650 = true := by decide +kernel
theorem ck5_2651 : bl5 2651 = true := by decide +kernel
theorem ck5_2652 : bl5 2652 = true := by decide +kernel
theorem ck5_2653 : bl5 2653 = true := by decide +kernel
theorem ck5_2654 : bl5 2654 = true := by decide +kernel
theorem ck5_2655 : bl5 2655 = true := by decide +kernel
theorem ck5_2656 : bl5 2656 = true := by decide +kernel
theorem ck5_2657 : bl5 2657 = true := by decide +kernel
theorem ck5_2658 : bl5 2658 = true := by decide +kernel
theorem ck5_2659 : bl5 2659 = true := by decide +kernel
theorem ck5_2660 : bl5 2660 = true := by decide +kernel
theorem ck5_2661 : bl5 2661 = true := by decide +kernel
theorem ck5_2662 : bl5 2662 = true := by decide +kernel
theorem ck5_2663 : bl5 2663 = true := by decide +kernel
theorem ck5_2664 : bl5 2664 = true := by decide +kernel
theorem ck5_2665 : bl5 2665 = true := by decide +kernel
theorem ck5_2666 : bl5 2666 = true := by decide +kernel
theorem ck5_2667 : bl5 2667 = true := by decide +kernel
theorem ck5_2668 : bl5 2668 = true := by decide +kernel
theorem ck5_2669 : bl5 2669 = true := by decide +kernel
theorem ck5_2670 : bl5 2670 = true := by decide +kernel
theorem ck5_2671 : bl5 2671 = true := by decide +kernel
theorem ck5_2672 : bl5 2672 = true := by decide +kernel
theorem ck5_2673 : bl5 2673 = true := by decide +kernel
theorem ck5_2674 : bl5 2674 = true := by decide +kernel
theorem ck5_2675 : bl5 2675 = true := by decide +kernel
theorem ck5_2676 : bl5 2676 = true := by decide +kernel
theorem ck5_2677 : bl5 2677 = true := by decide +kernel
theorem ck5_2678 : bl5 2678 = true := by decide +kernel
theorem ck5_2679 : bl5 2679 = true := by decide +kernel
theorem ck5_2680 : bl5 2680 = true := by decide +kernel
theorem ck5_2681 : bl5 2681 = true := by decide +kernel
theorem ck5_2682 : bl5 2682 = true := by decide +kernel
theorem ck5_2683 : bl5 2683 = true := by decide +kernel
theorem ck5_2684 : bl5 2684 = true := by decide +kernel
theorem ck5_2685 : bl5 2685 = true := by decide +kernel
theorem ck5_2686 : bl5 2686 = true := by decide +kernel
theorem ck5_2687 : bl5 2687 = true := by decide +kernel
theorem ck5_2688 : bl5 2688 = true := by decide +kernel
theorem ck5_2689 : bl5 2689 = true := by decide +kernel
theorem ck5_2690 : bl5 2690 = true := by decide +kernel
theorem ck5_2691 : bl5 2691 = true := by decide +kernel
theorem ck5_2692 : bl5 2692 = true := by decide +kernel
theorem ck5_2693 : bl5 2693 = true := by decide +kernel
theorem ck5_2694 : bl5 2694 = true := by decide +kernel
theorem ck5_2695 : bl5 2695 = true := by decide +kernel
theorem ck5_2696 : bl5 2696 = true := by decide +kernel
theorem ck5_2697 : bl5 2697 = true := by decide +kernel
theorem ck5_2698 : bl5 2698 = true := by decide +kernel
theorem ck5_2699 : bl5 2699 = true := by decide +kernel
theorem ck5_2700 : bl5 2700 = true := by decide +kernel
theorem ck5_2701 : bl5 2701 = true := by decide +kernel
theorem ck5_2702 : bl5 2702 = true := by decide +kernel
theorem ck5_2703 : bl5 2703 = true := by decide +kernel
theorem ck5_2704 : bl5 2704 = true := by decide +kernel
theorem ck5_2705 : bl5 2705 = true := by decide +kernel
theorem ck5_2706 : bl5 2706 = true := by decide +kernel
theorem ck5_2707 : bl5 2707 = true := by decide +kernel
theorem ck5_2708 : bl5 2708 = true := by decide +kernel
theorem ck5_2709 : bl5 2709 = true := by decide +kernel
theorem ck5_2710 : bl5 2710 = true := by decide +kernel
theorem ck5_2711 : bl5 2711 = true := by decide +kernel
theorem ck5_2712 : bl5 2712 = true := by decide +kernel
theorem ck5_2713 : bl5 2713 = true := by decide +kernel
theorem ck5_2714 : bl5 2714 = true := by decide +kernel
theorem ck5_2715 : bl5 2715 = true := by decide +kernel
theorem ck5_2716 : bl5 2716 = true := by decide +kernel
theorem ck5_2717 : bl5 2717 = true := by decide +kernel
theorem ck5_2718 : bl5 2718 = true := by decide +kernel
theorem ck5_2719 : bl5 2719 = true := by decide +kernel
theorem ck5_2720 : bl5 2720 = true := by decide +kernel
theorem ck5_2721 : bl5 2721 = true := by decide +kernel
theorem ck5_2722 : bl5 2722 = true := by decide +kernel
theorem ck5_2723 : bl5 2723 = true := by decide +kernel
theorem ck5_2724 : bl5 2724 = true := by decide +kernel
theorem ck5_2725 : bl5 2725 = true := by decide +kernel
theorem ck5_2726 : bl5 2726 = true := by decide +kernel
theorem ck5_2727 : bl5 2727 = true := by decide +kernel
theorem ck5_2728 : bl5 2728 = true := by decide +kernel
theorem ck5_2729 : bl5 2729 = true := by decide +kernel
theorem ck5_2730 : bl5 2730 = true := by decide +kernel
theorem ck5_2731 : bl5 2731 = true := by decide +kernel
theorem ck5_2732 : bl5 2732 = true := by decide +kernel
theorem ck5_2733 : bl5 2733 = true := by decide +kernel
theorem ck5_2734 : bl5 2734 = true := by decide +kernel
theorem ck5_2735 : bl5 2735 = true := by decide +kernel
theorem ck5_2736 : bl5 2736 = true := by decide +kernel
theorem ck5_2737 : bl5 2737 = true := by decide +kernel
theorem ck5_2738 : bl5 2738 = true := by decide +kernel
theorem ck5_2739 : bl5 2739 = true := by decide +kernel
theorem ck5_2740 : bl5 2740 = true := by decide +kernel
theorem ck5_2741 : bl5 2741 = true := by decide +kernel
theorem ck5_2742 : bl5 2742 = true := by decide +kernel
theorem ck5_2743 : bl5 2743 = true := by decide +kernel
theorem ck5_2744 : bl5 2744 = true := by decide +kernel
theorem ck5_2745 : bl5 2745 = true := by decide +kernel
theorem ck5_2746 : bl5 2746 = true := by decide +kernel
theorem ck5_2747 : bl5 2747 = true := by decide +kernel
theorem ck5_2748 : bl5 2748 = true := by decide +kernel
theorem ck5_2749 : bl5 2749 = true := by decide +kernel
theorem ck5_2750 : bl5 2750 = true := by decide +kernel
theorem ck5_2751 : bl5 2751 = true := by decide +kernel
theorem ck5_2752 : bl5 2752 = true := by decide +kernel
theorem ck5_2753 : bl5 2753 = true := by decide +kernel
theorem ck5_2754 : bl5 2754 = true := by decide +kernel
theorem ck5_2755 : bl5 2755 = true := by decide +kernel
theorem ck5_2756 : bl5 2756 = true := by decide +kernel
theorem ck5_2757 : bl5 2757 = true := by decide +kernel
theorem ck5_2758 : bl5 2758 = true := by decide +kernel
theorem ck5_2759 : bl5 2759 = true := by decide +kernel
theorem ck5_2760 : bl5 2760 = true := by decide +kernel
theorem ck5_2761 : bl5 2761 = true := by decide +kernel
theorem ck5_2762 : bl5 2762 = true := by decide +kernel
theorem ck5_2763 : bl5 2763 = true := by decide +kernel
theorem ck5_2764 : bl5 2764 = true := by decide +kernel
theorem ck5_2765 : bl5 2765 = true := by decide +kernel
theorem ck5_2766 : bl5 2766 = true := by decide +kernel
theorem ck5_2767 : bl5 2767 = true := by decide +kernel
theorem ck5_2768 : bl5 2768 = true := by decide +kernel
theorem ck5_2769 : bl5 2769 = true := by decide +kernel
theorem ck5_2770 : bl5 2770 = true := by decide +kernel
theorem ck5_2771 : bl5 2771 = true := by decide +kernel
theorem ck5_2772 : bl5 2772 = true := by decide +kernel
theorem ck5_2773 : bl5 2773 = true := by decide +kernel
theorem ck5_2774 : bl5 2774 = true := by decide +kernel
theorem ck5_2775 : bl5 2775 = true := by decide +kernel
theorem ck5_2776 : bl5 2776 = true := by decide +kernel
theorem ck5_2777 : bl5 2777 = true := by decide +kernel
theorem ck5_2778 : bl5 2778 = true := by decide +kernel
theorem ck5_2779 : bl5 2779 = true := by decide +kernel
theorem ck5_2780 : bl5 2780 = true := by decide +kernel
theorem ck5_2781 : bl5 2781 = true := by decide +kernel
theorem ck5_2782 : bl5 2782 = true := by decide +kernel
theorem ck5_2783 : bl5 2783 = true := by decide +kernel
theorem ck5_2784 : bl5 2784 = true := by decide +kernel
theorem ck5_2785 : bl5 2785 = true := by decide +kernel
theorem ck5_2786 : bl5 2786 = true := by decide +kernel
theorem ck5_2787 : bl5 2787 = true := by decide +kernel
theorem ck5_2788 : bl5 2788 = true := by decide +kernel
theorem ck5_2789 : bl5 2789 = true := by decide +kernel
theorem ck5_2790 : bl5 2790 = true := by decide +kernel
theorem ck5_2791 : bl5 2791 = true := by decide +kernel
theorem ck5_2792 : bl5 2792 = true := by decide +kernel
theorem ck5_2793 : bl5 2793 = true := by decide +kernel
theorem ck5_2794 : bl5 2794 = true := by decide +kernel
theorem ck5_2795 : bl5 2795 = true := by decide +kernel
theorem ck5_2796 : bl5 2796 = true := by decide +kernel
theorem ck5_2797 : bl5 2797 = true := by decide +kernel
theorem ck5_2798 : bl5 2798 = true := by decide +kernel
theorem ck5_2799 : bl5 2799 = true := by decide +kernel
theorem ck5_2800 : bl5 2800 = true := by decide +kernel
theorem ck5_2801 : bl5 2801 = true := by decide +kernel
theorem ck5_2802 : bl5 2802 = true := by decide +kernel
theorem ck5_2803 : bl5 2803 = true := by decide +kernel
theorem ck5_2804 : bl5 2804 = true := by decide +kernel
theorem ck5_2805 : bl5 2805 = true := by decide +kernel
theorem ck5_2806 : bl5 2806 = true := by decide +kernel
theorem ck5_2807 : bl5 2807 = true := by decide +kernel
theorem ck5_2808 : bl5 2808 = true := by decide +kernel
theorem ck5_2809 : bl5 2809 = true := by decide +kernel
theorem ck5_2810 : bl5 2810 = true := by decide +kernel
theorem ck5_2811 : bl5 2811 = true := by decide +kernel
theorem ck5_2812 : bl5 2812 = true := by decide +kernel
theorem ck5_2813 : bl5 2813 = true := by decide +kernel
theorem ck5_2814 : bl5 2814 = true := by decide +kernel
theorem ck5_2815 : bl5 2815 = true := by decide +kernel
theorem ck5_2816 : bl5 2816 = true := by decide +kernel
theorem ck5_2817 : bl5 2817 = true := by decide +kernel
theorem ck5_2818 : bl5 2818 = true := by decide +kernel
theorem ck5_2819 : bl5 2819 = true := by decide +kernel
theorem ck5_2820 : bl5 2820 = true := by decide +kernel
theorem ck5_2821 : bl5 2821 = true := by decide +kernel
theorem ck5_2822 : bl5 2822 = true := by decide +kernel
theorem ck5_2823 : bl5 2823 = true := by decide +kernel
theorem ck5_2824 : bl5 2824 = true := by decide +kernel
theorem ck5_2825 : bl5 2825 = true := by decide +kernel
theorem ck5_2826 : bl5 2826 = true := by decide +kernel
theorem ck5_2827 : bl5 2827 = true := by decide +kernel
theorem ck5_2828 : bl5 2828 = true := by decide +kernel
theorem ck5_2829 : bl5 2829 = true := by decide +kernel
theorem ck5_2830 : bl5 2830 = true := by decide +kernel
theorem ck5_2831 : bl5 2831 = true := by decide +kernel
theorem ck5_2832 : bl5 2832 = true := by decide +kernel
theorem ck5_2833 : bl5 2833 = true := by decide +kernel
theorem ck5_2834 : bl5 2834 = true := by decide +kernel
theorem ck5_2835 : bl5 2835 = true := by decide +kernel
theorem ck5_2836 : bl5 2836 = true := by decide +kernel
theorem ck5_2837 : bl5 2837 = true := by decide +kernel
theorem ck5_2838 : bl5 2838 = true := by decide +kernel
theorem ck5_2839 : bl5 2839 = true := by decide +kernel
theorem ck5_2840 : bl5 2840 = true := by decide +kernel
theorem ck5_2841 : bl5 2841 = true := by decide +kernel
theorem ck5_2842 : bl5 2842 = true := by decide +kernel
theorem ck5_2843 : bl5 2843 = true := by decide +kernel
theorem ck5_2844 : bl5 2844 = true := by decide +kernel
theorem ck5_2845 : bl5 2845 = true := by decide +kernel
theorem ck5_2846 : bl5 2846 = true := by decide +kernel
theorem ck5_2847 : bl5 2847 = true := by decide +kernel
theorem ck5_2848 : bl5 2848 = true := by decide +kernel
theorem ck5_2849 : bl5 2849 = true := by decide +kernel
theorem ck5_2850 : bl5 2850 = true := by decide +kernel
theorem ck5_2851 : bl5 2851 = true := by decide +kernel
theorem ck5_2852 : bl5 2852 = true := by decide +kernel
theorem ck5_2853 : bl5 2853 = true := by decide +kernel
theorem ck5_2854 : bl5 2854 = true := by decide +kernel
theorem ck5_2855 : bl5 2855 = true := by decide +kernel
theorem ck5_2856 : bl5 2856 = true := by decide +kernel
theorem ck5_2857 : bl5 2857 = true := by decide +kernel
theorem ck5_2858 : bl5 2858 = true := by decide +kernel
theorem ck5_2859 : bl5 2859 = true := by decide +kernel
theorem ck5_2860 : bl5 2860 = true := by decide +kernel
theorem ck5_2861 : bl5 2861 = true := by decide +kernel
theorem ck5_2862 : bl5 2862 = true := by decide +kernel
theorem ck5_2863 : bl5 2863 = true := by decide +kernel
theorem ck5_2864 : bl5 2864 = true := by decide +kernel
theorem ck5_2865 : bl5 2865 = true := by decide +kernel
theorem ck5_2866 : bl5 2866 = true := by decide +kernel
theorem ck5_2867 : bl5 2867 = true := by decide +kernel
theorem ck5_2868 : bl5 2868 = true := by decide +kernel
theorem ck5_2869 : bl5 2869 = true := by decide +kernel
theorem ck5_2870 : bl5 2870 = true := by decide +kernel
theorem ck5_2871 : bl5 2871 = true := by decide +kernel
theorem ck5_2872 : bl5 2872 = true := by decide +kernel
theorem ck5_2873 : bl5 2873 = true := by decide +kernel
theorem ck5_2874 : bl5 2874 = true := by decide +kernel
theorem ck5_2875 : bl5 2875 = true := by decide +kernel
theorem ck5_2876 : bl5 2876 = true := by decide +kernel
theorem ck5_2877 : bl5 2877 = true := by decide +kernel
theorem ck5_2878 : bl5 2878 = true := by decide +kernel
theorem ck5_2879 : bl5 2879 = true := by decide +kernel
theorem ck5_2880 : bl5 2880 = true := by decide +kernel
theorem ck5_2881 : bl5 2881 = true := by decide +kernel
theorem ck5_2882 : bl5 2882 = true := by decide +kernel
theorem ck5_2883 : bl5 2883 = true := by decide +kernel
theorem ck5_2884 : bl5 2884 = true := by decide +kernel
theorem ck5_2885 : bl5 2885 = true := by decide +kernel
theorem ck5_2886 : bl5 2886 = true := by decide +kernel
theorem ck5_2887 : bl5 2887 = true := by decide +kernel
theorem ck5_2888 : bl5 2888 = true := by decide +kernel
theorem ck5_2889 : bl5 2889 = true := by decide +kernel
theorem ck5_2890 : bl5 2890 = true := by decide +kernel
theorem ck5_2891 : bl5 2891 = true := by decide +kernel
theorem ck5_2892 : bl5 2892 = true := by decide +kernel
theorem ck5_2893 : bl5 2893 = true := by decide +kernel
theorem ck5_2894 : bl5 2894 = true := by decide +kernel
theorem ck5_2895 : bl5 2895 = true := by decide +kernel
theorem ck5_2896 : bl5 2896 = true := by decide +kernel
theorem ck5_2897 : bl5 2897 = true := by decide +kernel
theorem ck5_2898 : bl5 2898 = true := by decide +kernel
theorem ck5_2899 : bl5 2899 = true := by decide +kernel
theorem ck5_2900 : bl5 2900 = true := by decide +kernel
theorem ck5_2901 : bl5 2901 = true := by decide +kernel
theorem ck5_2902 : bl5 2902 = true := by decide +kernel
theorem ck5_2903 : bl5 2903 = true := by decide +kernel
theorem ck5_2904 : bl5 2904 = true := by decide +kernel
theorem ck5_2905 : bl5 2905 = true := by decide +kernel
theorem ck5_2906 : bl5 2906 = true := by decide +kernel
theorem ck5_2907 : bl5 2907 = true := by decide +kernel
theorem ck5_2908 : bl5 2908 = true := by decide +kernel
theorem ck5_2909 : bl5 2909 = true := by decide +kernel
theorem ck5_2910 : bl5 2910 = true := by decide +kernel
theorem ck5_2911 : bl5 2911 = true := by decide +kernel
theorem ck5_2912 : bl5 2912 = true := by decide +kernel
theorem ck5_2913 : bl5 2913 = true := by decide +kernel
theorem ck5_2914 : bl5 2914 = true := by decide +kernel
theorem ck5_2915 : bl5 2915 = true := by decide +kernel
theorem ck5_2916 : bl5 2916 = true := by decide +kernel
theorem ck5_2917 : bl5 2917 = true := by decide +kernel
theorem ck5_2918 : bl5 2918 = true := by decide +kernel
theorem ck5_2919 : bl5 2919 = true := by decide +kernel
theorem ck5_2920 : bl5 2920 = true := by decide +kernel
theorem ck5_2921 : bl5 2921 = true := by decide +kernel
theorem ck5_2922 : bl5 2922 = true := by decide +kernel
theorem ck5_2923 : bl5 2923 = true := by decide +kernel
theorem ck5_2924 : bl5 2924 = true := by decide +kernel
theorem ck5_2925 : bl5 2925 = true := by decide +kernel
theorem ck5_2926 : bl5 2926 = true := by decide +kernel
theorem ck5_2927 : bl5 2927 = true := by decide +kernel
theorem ck5_2928 : bl5 2928 = true := by decide +kernel
theorem ck5_2929 : bl5 2929 = true := by decide +kernel
theorem ck5_2930 : bl5 2930 = true := by decide +kernel
theorem ck5_2931 : bl5 2931 = true := by decide +kernel
theorem ck5_2932 : bl5 2932 = true := by decide +kernel
theorem ck5_2933 : bl5 2933 = true := by decide +kernel
theorem ck5_2934 : bl5 2934 = true := by decide +kernel
theorem ck5_2935 : bl5 2935 = true := by decide +kernel
theorem ck5_2936 : bl5 2936 = true := by decide +kernel
theorem ck5_2937 : bl5 2937 = true := by decide +kernel
theorem ck5_2938 : bl5 2938 = true := by decide +kernel
theorem ck5_2939 : bl5 2939 = true := by decide +kernel
theorem ck5_2940 : bl5 2940 = true := by decide +kernel
theorem ck5_2941 : bl5 2941 = true := by decide +kernel
theorem ck5_2942 : bl5 2942 = true := by decide +kernel
theorem ck5_2943 : bl5 2943 = true := by decide +kernel
theorem ck5_2944 : bl5 2944 = true := by decide +kernel
theorem ck5_2945 : bl5 2945 = true := by decide +kernel
theorem ck5_2946 : bl5 2946 = true := by decide +kernel
theorem ck5_2947 : bl5 2947 = true := by decide +kernel
theorem ck5_2948 : bl5 2948 = true := by decide +kernel
theorem ck5_2949 : bl5 2949 = true := by decide +kernel
theorem ck5_2950 : bl5 2950 = true := by decide +kernel
theorem ck5_2951 : bl5 2951 = true := by decide +kernel
theorem ck5_2952 : bl5 2952 = true := by decide +kernel
theorem ck5_2953 : bl5 2953 = true := by decide +kernel
theorem ck5_2954 : bl5 2954 = true := by decide +kernel
theorem ck5_2955 : bl5 2955 = true := by decide +kernel
theorem ck5_2956 : bl5 2956 = true := by decide +kernel
theorem ck5_2957 : bl5 2957 = true := by decide +kernel
theorem ck5_2958 : bl5 2958 = true := by decide +kernel
theorem ck5_2959 : bl5 2959 = true := by decide +kernel
theorem ck5_2960 : bl5 2960 = true := by decide +kernel
theorem ck5_2961 : bl5 2961 = true := by decide +kernel
theorem ck5_2962 : bl5 2962 = true := by decide +kernel
theorem ck5_2963 : bl5 2963 = true := by decide +kernel
theorem ck5_2964 : bl5 2964 = true := by decide +kernel
theorem ck5_2965 : bl5 2965 = true := by decide +kernel
theorem ck5_2966 : bl5 2966 = true := by decide +kernel
theorem ck5_2967 : bl5 2967 = true := by decide +kernel
theorem ck5_2968 : bl5 2968 = true := by decide +kernel
theorem ck5_2969 : bl5 2969 = true := by decide +kernel
theorem ck5_2970 : bl5 2970 = true := by decide +kernel
theorem ck5_2971 : bl5 2971 = true := by decide +kernel
theorem ck5_2972 : bl5 2972 = true := by decide +kernel
theorem ck5_2973 : bl5 2973 = true := by decide +kernel
theorem ck5_2974 : bl5 2974 = true := by decide +kernel
theorem ck5_2975 : bl5 2975 = true := by decide +kernel
theorem ck5_2976 : bl5 2976 = true := by decide +kernel
theorem ck5_2977 : bl5 2977 = true := by decide +kernel
theorem ck5_2978 : bl5 2978 = true := by decide +kernel
theorem ck5_2979 : bl5 2979 = true := by decide +kernel
theorem ck5_2980 : bl5 2980 = true := by decide +kernel
theorem ck5_2981 : bl5 2981 = true := by decide +kernel
theorem ck5_2982 : bl5 2982 = true := by decide +kernel
theorem ck5_2983 : bl5 2983 = true := by decide +kernel
theorem ck5_2984 : bl5 2984 = true := by decide +kernel
theorem ck5_2985 : bl5 2985 = true := by decide +kernel
theorem ck5_2986 : bl5 2986 = true := by decide +kernel
theorem ck5_2987 : bl5 2987 = true := by decide +kernel
theorem ck5_2988 : bl5 2988 = true := by decide +kernel
theorem ck5_2989 : bl5 2989 = true := by decide +kernel
theorem ck5_2990 : bl5 2990 = true := by decide +kernel
theorem ck5_2991 : bl5 2991 = true := by decide +kernel
theorem ck5_2992 : bl5 2992 = true := by decide +kernel
theorem ck5_2993 : bl5 2993 = true := by decide +kernel
theorem ck5_2994 : bl5 2994 = true := by decide +kernel
theorem ck5_2995 : bl5 2995 = true := by decide +kernel
theorem ck5_2996 : bl5 2996 = true := by decide +kernel
theorem ck5_2997 : bl5 2997 = true := by decide +kernel
theorem ck5_2998 : bl5 2998 = true := by decide +kernel
theorem ck5_2999 : bl5 2999 = true := by decide +kernel
theorem ck5_3000 : bl5 3000 = true := by decide +kernel
theorem ck5_3001 : bl5 3001 = true := by decide +kernel
theorem ck5_3002 : bl5 3002 = true := by decide +kernel
theorem ck5_3003 : bl5 3003 = true := by decide +kernel
theorem ck5_3004 : bl5 3004 = true := by decide +kernel
theorem ck5_3005 : bl5 3005 = true := by decide +kernel
theorem ck5_3006 : bl5 3006 = true := by decide +kernel
theorem ck5_3007 : bl5 3007 = true := by decide +kernel
theorem ck5_3008 : bl5 3008 = true := by decide +kernel
theorem ck5_3009 : bl5 3009 = true := by decide +kernel
theorem ck5_3010 : bl5 3010 = true := by decide +kernel
theorem ck5_3011 : bl5 3011 = true := by decide +kernel
theorem ck5_3012 : bl5 3012 = true := by decide +kernel
theorem ck5_3013 : bl5 3013 = true := by decide +kernel
theorem ck5_3014 : bl5 3014 = true := by decide +kernel
theorem ck5_3015 : bl5 3015 = true := by decide +kernel
theorem ck5_3016 : bl5 3016 = true := by decide +kernel
theorem ck5_3017 : bl5 3017 = true := by decide +kernel
theorem ck5_3018 : bl5 3018 = true := by decide +kernel
theorem ck5_3019 : bl5 3019 = true := by decide +kernel
theorem ck5_3020 : bl5 3020 = true := by decide +kernel
theorem ck5_3021 : bl5 3021 = true := by decide +kernel
theorem ck5_3022 : bl5 3022 = true := by decide +kernel
theorem ck5_3023 : bl5 3023 = true := by decide +kernel
theorem ck5_3024 : bl5 3024 = true := by decide +kernel
theorem ck5_3025 : bl5 3025 = true := by decide +kernel
theorem ck5_3026 : bl5 3026 = true := by decide +kernel
theorem ck5_3027 : bl5 3027 = true := by decide +kernel
theorem ck5_3028 : bl5 3028 = true := by decide +kernel
theorem ck5_3029 : bl5 3029 = true := by decide +kernel
theorem ck5_3030 : bl5 3030 = true := by decide +kernel
theorem ck5_3031 : bl5 3031 = true := by decide +kernel
theorem ck5_3032 : bl5 3032 = true := by decide +kernel
theorem ck5_3033 : bl5 3033 = true := by decide +kernel
theorem ck5_3034 : bl5 3034 = true := by decide +kernel
theorem ck5_3035 : bl5 3035 = true := by decide +kernel
theorem ck5_3036 : bl5 3036 = true := by decide +kernel
theorem ck5_3037 : bl5 3037 = true := by decide +kernel
theorem ck5_3038 : bl5 3038 = true := by decide +kernel
theorem ck5_3039 : bl5 3039 = true := by decide +kernel
theorem ck5_3040 : bl5 3040 = true := by decide +kernel
theorem ck5_3041 : bl5 3041 = true := by decide +kernel
theorem ck5_3042 : bl5 3042 = true := by decide +kernel
theorem ck5_3043 : bl5 3043 = true := by decide +kernel
theorem ck5_3044 : bl5 3044 = true := by decide +kernel
theorem ck5_3045 : bl5 3045 = true := by decide +kernel
theorem ck5_3046 : bl5 3046 = true := by decide +kernel
theorem ck5_3047 : bl5 3047 = true := by decide +kernel
theorem ck5_3048 : bl5 3048 = true := by decide +kernel
theorem ck5_3049 : bl5 3049 = true := by decide +kernel
theorem ck5_3050 : bl5 3050 = true := by decide +kernel
theorem ck5_3051 : bl5 3051 = true := by decide +kernel
theorem ck5_3052 : bl5 3052 = true := by decide +kernel
theorem ck5_3053 : bl5 3053 = true := by decide +kernel
theorem ck5_3054 : bl5 3054 = true := by decide +kernel
theorem ck5_3055 : bl5 3055 = true := by decide +kernel
theorem ck5_3056 : bl5 3056 = true := by decide +kernel
theorem ck5_3057 : bl5 3057 = true := by decide +kernel
theorem ck5_3058 : bl5 3058 = true := by decide +kernel
theorem ck5_3059 : bl5 3059 = true := by decide +kernel
theorem ck5_3060 : bl5 3060 = true := by decide +kernel
theorem ck5_3061 : bl5 3061 = true := by decide +kernel
theorem ck5_3062 : bl5 3062 = true := by decide +kernel
theorem ck5_3063 : bl5 3063 = true := by decide +kernel
theorem ck5_3064 : bl5 3064 = true := by decide +kernel
theorem ck5_3065 : bl5 3065 = true := by decide +kernel
theorem ck5_3066 : bl5 3066 = true := by decide +kernel
theorem ck5_3067 : bl5 3067 = true := by decide +kernel
theorem ck5_3068 : bl5 3068 = true := by decide +kernel
theorem ck5_3069 : bl5 3069 = true := by decide +kernel
theorem ck5_3070 : bl5 3070 = true := by decide +kernel
theorem ck5_3071 : bl5 3071 = true := by decide +kernel
theorem ck5_3072 : bl5 3072 = true := by decide +kernel
theorem ck5_3073 : bl5 3073 = true := by decide +kernel
theorem ck5_3074 : bl5 3074 = true := by decide +kernel
theorem ck5_3075 : bl5 3075 = true := by decide +kernel
theorem ck5_3076 : bl5 3076 = true := by decide +kernel
theorem ck5_3077 : bl5 3077 = true := by decide +kernel
theorem ck5_3078 : bl5 3078 = true := by decide +kernel
theorem ck5_3079 : bl5 3079 = true := by decide +kernel
theorem ck5_3080 : bl5 3080 = true := by decide +kernel
theorem ck5_3081 : bl5 3081 = true := by decide +kernel
theorem ck5_3082 : bl5 3082 = true := by decide +kernel
theorem ck5_3083 : bl5 3083 = true := by decide +kernel
theorem ck5_3084 : bl5 3084 = true := by decide +kernel
theorem ck5_3085 : bl5 3085 = true := by decide +kernel
theorem ck5_3086 : bl5 3086 = true := by decide +kernel
theorem ck5_3087 : bl5 3087 = true := by decide +kernel
theorem ck5_3088 : bl5 3088 = true := by decide +kernel
theorem ck5_3089 : bl5 3089 = true := by decide +kernel
theorem ck5_3090 : bl5 3090 = true := by decide +kernel
theorem ck5_3091 : bl5 3091 = true := by decide +kernel
theorem ck5_3092 : bl5 3092 = true := by decide +kernel
theorem ck5_3093 : bl5 3093 = true := by decide +kernel
theorem ck5_3094 : bl5 3094 = true := by decide +kernel
theorem ck5_3095 : bl5 3095 = true := by decide +kernel
theorem ck5_3096 : bl5 3096 = true := by decide +kernel
theorem ck5_3097 : bl5 3097 = true := by decide +kernel
theorem ck5_3098 : bl5 3098 = true := by decide +kernel
theorem ck5_3099 : bl5 3099 = true := by decide +kernel
theorem ck5_3100 : bl5 3100 = true := by decide +kernel
theorem ck5_3101 : bl5 3101 = true := by decide +kernel
theorem ck5_3102 : bl5 3102 = true := by decide +kernel
theorem ck5_3103 : bl5 3103 = true := by decide +kernel
theorem ck5_3104 : bl5 3104 = true := by decide +kernel
theorem ck5_3105 : bl5 3105 = true := by decide +kernel
theorem ck5_3106 : bl5 3106 = true := by decide +kernel
theorem ck5_3107 : bl5 3107 = true := by decide +kernel
theorem ck5_3108 : bl5 3108 = true := by decide +kernel
theorem ck5_3109 : bl5 3109 = true := by decide +kernel
theorem ck5_3110 : bl5 3110 = true := by decide +kernel
theorem ck5_3111 : bl5 3111 = true := by decide +kernel
theorem ck5_3112 : bl5 3112 = true := by decide +kernel
theorem ck5_3113 : bl5 3113 = true := by decide +kernel
theorem ck5_3114 : bl5 3114 = true := by decide +kernel
theorem ck5_3115 : bl5 3115 = true := by decide +kernel
theorem ck5_3116 : bl5 3116 = true := by decide +kernel
theorem ck5_3117 : bl5 3117 = true := by decide +kernel
theorem ck5_3118 : bl5 3118 = true := by decide +kernel
theorem ck5_3119 : bl5 3119 = true := by decide +kernel
theorem ck5_3120 : bl5 3120 = true := by decide +kernel
theorem ck5_3121 : bl5 3121 = true := by decide +kernel
theorem ck5_3122 : bl5 3122 = true := by decide +kernel
theorem ck5_3123 : bl5 3123 = true := by decide +kernel
theorem ck5_3124 : bl5 3124 = true := by decide +kernel
theorem ck5_3125 : bl5 3125 = true := by decide +kernel
theorem ck5_3126 : bl5 3126 = true := by decide +kernel
theorem ck5_3127 : bl5 3127 = true := by decide +kernel
theorem ck5_3128 : bl5 3128 = true := by decide +kernel
theorem ck5_3129 : bl5 3129 = true := by decide +kernel
theorem ck5_3130 : bl5 3130 = true := by decide +kernel
theorem ck5_3131 : bl5 3131 = true := by decide +kernel
theorem ck5_3132 : bl5 3132 = true := by decide +kernel
theorem ck5_3133 : bl5 3133 = true := by decide +kernel
theorem ck5_3134 : bl5 3134 = true := by decide +kernel
theorem ck5_3135 : bl5 3135 = true := by decide +kernel
theorem ck5_3136 : bl5 3136 = true := by decide +kernel
theorem ck5_3137 : bl5 3137 = true := by decide +kernel
theorem ck5_3138 : bl5 3138 = true := by decide +kernel
theorem ck5_3139 : bl5 3139 = true := by decide +kernel
theorem ck5_3140 : bl5 3140 = true := by decide +kernel
theorem ck5_3141 : bl5 3141 = true := by decide +kernel
theorem ck5_3142 : bl5 3142 = true := by decide +kernel
theorem ck5_3143 : bl5 3143 = true := by decide +kernel
theorem ck5_3144 : bl5 3144 = true := by decide +kernel
theorem ck5_3145 : bl5 3145 = true := by decide +kernel
theorem ck5_3146 : bl5 3146 = true := by decide +kernel
theorem ck5_3147 : bl5 3147 = true := by decide +kernel
theorem ck5_3148 : bl5 3148 = true := by decide +kernel
theorem ck5_3149 : bl5 3149 = true := by decide +kernel
theorem ck5_3150 : bl5 3150 = true := by decide +kernel
theorem ck5_3151 : bl5 3151 = true := by decide +kernel
theorem ck5_3152 : bl5 3152 = true := by decide +kernel
theorem ck5_3153 : bl5 3153 = true := by decide +kernel
theorem ck5_3154 : bl5 3154 = true := by decide +kernel
theorem ck5_3155 : bl5 3155 = true := by decide +kernel
theorem ck5_3156 : bl5 3156 = true := by decide +kernel
theorem ck5_3157 : bl5 3157 = true := by decide +kernel
theorem ck5_3158 : bl5 3158 = true := by decide +kernel
theorem ck5_3159 : bl5 3159 = true := by decide +kernel
theorem ck5_3160 : bl5 3160 = true := by decide +kernel
theorem ck5_3161 : bl5 3161 = true := by decide +kernel
theorem ck5_3162 : bl5 3162 = true := by decide +kernel
theorem ck5_3163 : bl5 3163 = true := by decide +kernel
theorem ck5_3164 : bl5 3164 = true := by decide +kernel
theorem ck5_3165 : bl5 3165 = true := by decide +kernel
theorem ck5_3166 : bl5 3166 = true := by decide +kernel
theorem ck5_3167 : bl5 3167 = true := by decide +kernel
theorem ck5_3168 : bl5 3168 = true := by decide +kernel
theorem ck5_3169 : bl5 3169 = true := by decide +kernel
theorem ck5_3170 : bl5 3170 = true := by decide +kernel
theorem ck5_3171 : bl5 3171 = true := by decide +kernel
theorem ck5_3172 : bl5 3172 = true := by decide +kernel
theorem ck5_3173 : bl5 3173 = true := by decide +kernel
theorem ck5_3174 : bl5 3174 = true := by decide +kernel
theorem ck5_3175 : bl5 3175 = true := by decide +kernel
theorem ck5_3176 : bl5 3176 = true := by decide +kernel
theorem ck5_3177 : bl5 3177 = true := by decide +kernel
theorem ck5_3178 : bl5 3178 = true := by decide +kernel
theorem ck5_3179 : bl5 3179 = true := by decide +kernel
theorem ck5_3180 : bl5 3180 = true := by decide +kernel
theorem ck5_3181 : bl5 3181 = true := by decide +kernel
theorem ck5_3182 : bl5 3182 = true := by decide +kernel
theorem ck5_3183 : bl5 3183 = true := by decide +kernel
theorem ck5_3184 : bl5 3184 = true := by decide +kernel
theorem ck5_3185 : bl5 3185 = true := by decide +kernel
theorem ck5_3186 : bl5 3186 = true := by decide +kernel
theorem ck5_3187 : bl5 3187 = true := by decide +kernel
theorem ck5_3188 : bl5 3188 = true := by decide +kernel
theorem ck5_3189 : bl5 3189 = true := by decide +kernel
theorem ck5_3190 : bl5 3190 = true := by decide +kernel
theorem ck5_3191 : bl5 3191 = true := by decide +kernel
theorem ck5_3192 : bl5 3192 = true := by decide +kernel
theorem ck5_3193 : bl5 3193 = true := by decide +kernel
theorem ck5_3194 : bl5 3194 = true := by decide +kernel
theorem ck5_3195 : bl5 3195 = true := by decide +kernel
theorem ck5_3196 : bl5 3196 = true := by decide +kernel
theorem ck5_3197 : bl5 3197 = true := by decide +kernel
theorem ck5_3198 : bl5 3198 = true := by decide +kernel
theorem ck5_3199 : bl5 3199 = true := by decide +kernel
theorem ck5_3200 : bl5 3200 = true := by decide +kernel
theorem ck5_3201 : bl5 3201 = true := by decide +kernel
theorem ck5_3202 : bl5 3202 = true := by decide +kernel
theorem ck5_3203 : bl5 3203 = true := by decide +kernel
theorem ck5_3204 : bl5 3204 = true := by decide +kernel
theorem ck5_3205 : bl5 3205 = true := by decide +kernel
theorem ck5_3206 : bl5 3206 = true := by decide +kernel
theorem ck5_3207 : bl5 3207 = true := by decide +kernel
theorem ck5_3208 : bl5 3208 = true := by decide +kernel
theorem ck5_3209 : bl5 3209 = true := by decide +kernel
theorem ck5_3210 : bl5 3210 = true := by decide +kernel
theorem ck5_3211 : bl5 3211 = true := by decide +kernel
theorem ck5_3212 : bl5 3212 = true := by decide +kernel
theorem ck5_3213 : bl5 3213 = true := by decide +kernel
theorem ck5_3214 : bl5 3214 = true := by decide +kernel
theorem ck5_3215 : bl5 3215 = true := by decide +kernel
theorem ck5_3216 : bl5 3216 = true := by decide +kernel
theorem ck5_3217 : bl5 3217 = true := by decide +kernel
theorem ck5_3218 : bl5 3218 = true := by decide +kernel
theorem ck5_3219 : bl5 3219 = true := by decide +kernel
theorem ck5_3220 : bl5 3220 = true := by decide +kernel
theorem ck5_3221 : bl5 3221 = true := by decide +kernel
theorem ck5_3222 : bl5 3222 = true := by decide +kernel
theorem ck5_3223 : bl5 3223 = true := by decide +kernel
theorem ck5_3224 : bl5 3224 = true := by decide +kernel
theorem ck5_3225 : bl5 3225 = true := by decide +kernel
theorem ck5_3226 : bl5 3226 = true := by decide +kernel
theorem ck5_3227 : bl5 3227 = true := by decide +kernel
theorem ck5_3228 : bl5 3228 = true := by decide +kernel
theorem ck5_3229 : bl5 3229 = true := by decide +kernel
theorem ck5_3230 : bl5 3230 = true := by decide +kernel
theorem ck5_3231 : bl5 3231 = true := by decide +kernel
theorem ck5_3232 : bl5 3232 = true := by decide +kernel
theorem ck5_3233 : bl5 3233 = true := by decide +kernel
theorem ck5_3234 : bl5 3234 = true := by decide +kernel
theorem ck5_3235 : bl5 3235 = true := by decide +kernel
theorem ck5_3236 : bl5 3236 = true := by decide +kernel
theorem ck5_3237 : bl5 3237 = true := by decide +kernel
theorem ck5_3238 : bl5 3238 = true := by decide +kernel
theorem ck5_3239 : bl5 3239 = true := by decide +kernel
theorem ck5_3240 : bl5 3240 = true := by decide +kernel
theorem ck5_3241 : bl5 3241 = true := by decide +kernel
theorem ck5_3242 : bl5 3242 = true := by decide +kernel
theorem ck5_3243 : bl5 3243 = true := by decide +kernel
theorem ck5_3244 : bl5 3244 = true := by decide +kernel
theorem ck5_3245 : bl5 3245 = true := by decide +kernel
theorem ck5_3246 : bl5 3246 = true := by decide +kernel
theorem ck5_3247 : bl5 3247 = true := by decide +kernel
theorem ck5_3248 : bl5 3248 = true := by decide +kernel
theorem ck5_3249 : bl5 3249 = true := by decide +kernel
theorem ck5_3250 : bl5 3250 = true := by decide +kernel
theorem ck5_3251 : bl5 3251 = true := by decide +kernel
theorem ck5_3252 : bl5 3252 = true := by decide +kernel
theorem ck5_3253 : bl5 3253 = true := by decide +kernel
theorem ck5_3254 : bl5 3254 = true := by decide +kernel
theorem ck5_3255 : bl5 3255 = true := by decide +kernel
theorem ck5_3256 : bl5 3256 = true := by decide +kernel
theorem ck5_3257 : bl5 3257 = true := by decide +kernel
theorem ck5_3258 : bl5 3258 = true := by decide +kernel
theorem ck5_3259 : bl5 3259 = true := by decide +kernel
theorem ck5_3260 : bl5 3260 = true := by decide +kernel
theorem ck5_3261 : bl5 3261 = true := by decide +kernel
theorem ck5_3262 : bl5 3262 = true := by decide +kernel
theorem ck5_3263 : bl5 3263 = true := by decide +kernel
theorem ck5_3264 : bl5 3264 = true := by decide +kernel
theorem ck5_3265 : bl5 3265 = true := by decide +kernel
theorem ck5_3266 : bl5 3266 = true := by decide +kernel
theorem ck5_3267 : bl5 3267 = true := by decide +kernel
theorem ck5_3268 : bl5 3268 = true := by decide +kernel
theorem ck5_3269 : bl5 3269 = true := by decide +kernel
theorem ck5_3270 : bl5 3270 = true := by decide +kernel
theorem ck5_3271 : bl5 3271 = true := by decide +kernel
theorem ck5_3272 : bl5 3272 = true := by decide +kernel
theorem ck5_3273 : bl5 3273 = true := by decide +kernel
theorem ck5_3274 : bl5 3274 = true := by decide +kernel
theorem ck5_3275 : bl5 3275 = true := by decide +kernel
theorem ck5_3276 : bl5 3276 = true := by decide +kernel
theorem ck5_3277 : bl5 3277 = true := by decide +kernel
theorem ck5_3278 : bl5 3278 = true := by decide +kernel
theorem ck5_3279 : bl5 3279 = true := by decide +kernel
theorem ck5_3280 : bl5 3280 = true := by decide +kernel
theorem ck5_3281 : bl5 3281 = true := by decide +kernel
theorem ck5_3282 : bl5 3282 = true := by decide +kernel
theorem ck5_3283 : bl5 3283 = true := by decide +kernel
theorem ck5_3284 : bl5 3284 = true := by decide +kernel
theorem ck5_3285 : bl5 3285 = true := by decide +kernel
theorem ck5_3286 : bl5 3286 = true := by decide +kernel
theorem ck5_3287 : bl5 3287 = true := by decide +kernel
theorem ck5_3288 : bl5 3288 = true := by decide +kernel
theorem ck5_3289 : bl5 3289 = true := by decide +kernel
theorem ck5_3290 : bl5 3290 = true := by decide +kernel
theorem ck5_3291 : bl5 3291 = true := by decide +kernel
theorem ck5_3292 : bl5 3292 = true := by decide +kernel
theorem ck5_3293 : bl5 3293 = true := by decide +kernel
theorem ck5_3294 : bl5 3294 = true := by decide +kernel
theorem ck5_3295 : bl5 3295 = true := by decide +kernel
theorem ck5_3296 : bl5 3296 = true := by decide +kernel
theorem ck5_3297 : bl5 3297 = true := by decide +kernel
theorem ck5_3298 : bl5 3298 = true := by decide +kernel
theorem ck5_3299 : bl5 3299 = true := by decide +kernel
theorem ck5_3300 : bl5 3300 = true := by decide +kernel
theorem ck5_3301 : bl5 3301 = true := by decide +kernel
theorem ck5_3302 : bl5 3302 = true := by decide +kernel
theorem ck5_3303 : bl5 3303 = true := by decide +kernel
theorem ck5_3304 : bl5 3304 = true := by decide +kernel
theorem ck5_3305 : bl5 3305 = true := by decide +kernel
theorem ck5_3306 : bl5 3306 = true := by decide +kernel
theorem ck5_3307 : bl5 3307 = true := by decide +kernel
theorem ck5_3308 : bl5 3308 = true := by decide +kernel
theorem ck5_3309 : bl5 3309 = true := by decide +kernel
theorem ck5_3310 : bl5 3310 = true := by decide +kernel
theorem ck5_3311 : bl5 3311 = true := by decide +kernel
theorem ck5_3312 : bl5 3312 = true := by decide +kernel
theorem ck5_3313 : bl5 3313 = true := by decide +kernel
theorem ck5_3314 : bl5 3314 = true := by decide +kernel
theorem ck5_3315 : bl5 3315 = true := by decide +kernel
theorem ck5_3316 : bl5 3316 = true := by decide +kernel
theorem ck5_3317 : bl5 3317 = true := by decide +kernel
theorem ck5_3318 : bl5 3318 = true := by decide +kernel
theorem ck5_3319 : bl5 3319 = true := by decide +kernel
theorem ck5_3320 : bl5 3320 = true := by decide +kernel
theorem ck5_3321 : bl5 3321 = true := by decide +kernel
theorem ck5_3322 : bl5 3322 = true := by decide +kernel
theorem ck5_3323 : bl5 3323 = true := by decide +kernel
theorem ck5_3324 : bl5 3324 = true := by decide +kernel
theorem ck5_3325 : bl5 3325 = true := by decide +kernel
theorem ck5_3326 : bl5 3326 = true := by decide +kernel
theorem ck5_3327 : bl5 3327 = true := by decide +kernel
theorem ck5_3328 : bl5 3328 = true := by decide +kernel
theorem ck5_3329 : bl5 3329 = true := by decide +kernel
theorem ck5_3330 : bl5 3330 = true := by decide +kernel
theorem ck5_3331 : bl5 3331 = true := by decide +kernel
theorem ck5_3332 : bl5 3332 = true := by decide +kernel
theorem ck5_3333 : bl5 3333 = true := by decide +kernel
theorem ck5_3334 : bl5 3334 = true := by decide +kernel
theorem ck5_3335 : bl5 3335 = true := by decide +kernel
theorem ck5_3336 : bl5 3336 = true := by decide +kernel
theorem ck5_3337 : bl5 3337 = true := by decide +kernel
theorem ck5_3338 : bl5 3338 = true := by decide +kernel
theorem ck5_3339 : bl5 3339 = true := by decide +kernel
theorem ck5_3340 : bl5 3340 = true := by decide +kernel
theorem ck5_3341 : bl5 3341 = true := by decide +kernel
theorem ck5_3342 : bl5 3342 = true := by decide +kernel
theorem ck5_3343 : bl5 3343 = true := by decide +kernel
theorem ck5_3344 : bl5 3344 = true := by decide +kernel
theorem ck5_3345 : bl5 3345 = true := by decide +kernel
theorem ck5_3346 : bl5 3346 = true := by decide +kernel
theorem ck5_3347 : bl5 3347 = true := by decide +kernel
theorem ck5_3348 : bl5 3348 = true := by decide +kernel
theorem ck5_3349 : bl5 3349 = true := by decide +kernel
theorem ck5_3350 : bl5 3350 = true := by decide +kernel
theorem ck5_3351 : bl5 3351 = true := by decide +kernel
theorem ck5_3352 : bl5 3352 = true := by decide +kernel
theorem ck5_3353 : bl5 3353 = true := by decide +kernel
theorem ck5_3354 : bl5 3354 = true := by decide +kernel
theorem ck5_3355 : bl5 3355 = true := by decide +kernel
theorem ck5_3356 : bl5 3356 = true := by decide +kernel
theorem ck5_3357 : bl5 3357 = true := by decide +kernel
theorem ck5_3358 : bl5 3358 = true := by decide +kernel
theorem ck5_3359 : bl5 3359 = true := by decide +kernel
theorem ck5_3360 : bl5 3360 = true := by decide +kernel
theorem ck5_3361 : bl5 3361 = true := by decide +kernel
theorem ck5_3362 : bl5 3362 = true := by decide +kernel
theorem ck5_3363 : bl5 3363 = true := by decide +kernel
theorem ck5_3364 : bl5 3364 = true := by decide +kernel
theorem ck5_3365 : bl5 3365 = true := by decide +kernel
theorem ck5_3366 : bl5 3366 = true := by decide +kernel
theorem ck5_3367 : bl5 3367 = true := by decide +kernel
theorem ck5_3368 : bl5 3368 = true := by decide +kernel
theorem ck5_3369 : bl5 3369 = true := by decide +kernel
theorem ck5_3370 : bl5 3370 = true := by decide +kernel
theorem ck5_3371 : bl5 3371 = true := by decide +kernel
theorem ck5_3372 : bl5 3372 = true := by decide +kernel
theorem ck5_3373 : bl5 3373 = true := by decide +kernel
theorem ck5_3374 : bl5 3374 = true := by decide +kernel
theorem ck5_3375 : bl5 3375 = true := by decide +kernel
theorem ck5_3376 : bl5 3376 = true := by decide +kernel
theorem ck5_3377 : bl5 3377 = true := by decide +kernel
theorem ck5_3378 : bl5 3378 = true := by decide +kernel
theorem ck5_3379 : bl5 3379 = true := by decide +kernel
theorem ck5_3380 : bl5 3380 = true := by decide +kernel
theorem ck5_3381 : bl5 3381 = true := by decide +kernel
theorem ck5_3382 : bl5 3382 = true := by decide +kernel
theorem ck5_3383 : bl5 3383 = true := by decide +kernel
theorem ck5_3384 : bl5 3384 = true := by decide +kernel
theorem ck5_3385 : bl5 3385 = true := by decide +kernel
theorem ck5_3386 : bl5 3386 = true := by decide +kernel
theorem ck5_3387 : bl5 3387 = true := by decide +kernel
theorem ck5_3388 : bl5 3388 = true := by decide +kernel
theorem ck5_3389 : bl5 3389 = true := by decide +kernel
theorem ck5_3390 : bl5 3390 = true := by decide +kernel
theorem ck5_3391 : bl5 3391 = true := by decide +kernel
theorem ck5_3392 : bl5 3392 = true := by decide +kernel
theorem ck5_3393 : bl5 3393 = true := by decide +kernel
theorem ck5_3394 : bl5 3394 = true := by decide +kernel
theorem ck5_3395 : bl5 3395 = true := by decide +kernel
theorem ck5_3396 : bl5 3396 = true := by decide +kernel
theorem ck5_3397 : bl5 3397 = true := by decide +kernel
theorem ck5_3398 : bl5 3398 = true := by decide +kernel
theorem ck5_3399 : bl5 3399 = true := by decide +kernel
theorem ck5_3400 : bl5 3400 = true := by decide +kernel
theorem ck5_3401 : bl5 3401 = true := by decide +kernel
theorem ck5_3402 : bl5 3402 = true := by decide +kernel
theorem ck5_3403 : bl5 3403 = true := by decide +kernel
theorem ck5_3404 : bl5 3404 = true := by decide +kernel
theorem ck5_3405 : bl5 3405 = true := by decide +kernel
theorem ck5_3406 : bl5 3406 = true := by decide +kernel
theorem ck5_3407 : bl5 3407 = true := by decide +kernel
theorem ck5_3408 : bl5 3408 = true := by decide +kernel
theorem ck5_3409 : bl5 3409 = true := by decide +kernel
theorem ck5_3410 : bl5 3410 = true := by decide +kernel
theorem ck5_3411 : bl5 3411 = true := by decide +kernel
theorem ck5_3412 : bl5 3412 = true := by decide +kernel
theorem ck5_3413 : bl5 3413 = true := by decide +kernel
theorem ck5_3414 : bl5 3414 = true := by decide +kernel
theorem ck5_3415 : bl5 3415 = true := by decide +kernel
theorem ck5_3416 : bl5 3416 = true := by decide +kernel
theorem ck5_3417 : bl5 3417 = true := by decide +kernel
theorem ck5_3418 : bl5 3418 = true := by decide +kernel
theorem ck5_3419 : bl5 3419 = true := by decide +kernel
theorem ck5_3420 : bl5 3420 = true := by decide +kernel
theorem ck5_3421 : bl5 3421 = true := by decide +kernel
theorem ck5_3422 : bl5 3422 = true := by decide +kernel
theorem ck5_3423 : bl5 3423 = true := by decide +kernel
theorem ck5_3424 : bl5 3424 = true := by decide +kernel
theorem ck5_3425 : bl5 3425 = true := by decide +kernel
theorem ck5_3426 : bl5 3426 = true := by decide +kernel
theorem ck5_3427 : bl5 3427 = true := by decide +kernel
theorem ck5_3428 : bl5 3428 = true := by decide +kernel
theorem ck5_3429 : bl5 3429 = true := by decide +kernel
theorem ck5_3430 : bl5 3430 = true := by decide +kernel
theorem ck5_3431 : bl5 3431 = true := by decide +kernel
theorem ck5_3432 : bl5 3432 = true := by decide +kernel
theorem ck5_3433 : bl5 3433 = true := by decide +kernel
theorem ck5_3434 : bl5 3434 = true := by decide +kernel
theorem ck5_3435 : bl5 3435 = true := by decide +kernel
theorem ck5_3436 : bl5 3436 = true := by decide +kernel
theorem ck5_3437 : bl5 3437 = true := by decide +kernel
theorem ck5_3438 : bl5 3438 = true := by decide +kernel
theorem ck5_3439 : bl5 3439 = true := by decide +kernel
theorem ck5_3440 : bl5 3440 = true := by decide +kernel
theorem ck5_3441 : bl5 3441 = true := by decide +kernel
theorem ck5_3442 : bl5 3442 = true := by decide +kernel
theorem ck5_3443 : bl5 3443 = true := by decide +kernel
theorem ck5_3444 : bl5 3444 = true := by decide +kernel
theorem ck5_3445 : bl5 3445 = true := by decide +kernel
theorem ck5_3446 : bl5 3446 = true := by decide +kernel
theorem ck5_3447 : bl5 3447 = true := by decide +kernel
theorem ck5_3448 : bl5 3448 = true := by decide +kernel
theorem ck5_3449 : bl5 3449 = true := by decide +kernel
theorem ck5_3450 : bl5 3450 = true := by decide +kernel
theorem ck5_3451 : bl5 3451 = true := by decide +kernel
theorem ck5_3452 : bl5 3452 = true := by decide +kernel
theorem ck5_3453 : bl5 3453 = true := by decide +kernel
theorem ck5_3454 : bl5 3454 = true := by decide +kernel
theorem ck5_3455 : bl5 3455 = true := by decide +kernel
theorem ck5_3456 : bl5 3456 = true := by decide +kernel
theorem ck5_3457 : bl5 3457 = true := by decide +kernel
theorem ck5_3458 : bl5 3458 = true := by decide +kernel
theorem ck5_3459 : bl5 3459 = true := by decide +kernel
theorem ck5_3460 : bl5 3460 = true := by decide +kernel
theorem ck5_3461 : bl5 3461 = true := by decide +kernel
theorem ck5_3462 : bl5 3462 = true := by decide +kernel
theorem ck5_3463 : bl5 3463 = true := by decide +kernel
theorem ck5_3464 : bl5 3464 = true := by decide +kernel
theorem ck5_3465 : bl5 3465 = true := by decide +kernel
theorem ck5_3466 : bl5 3466 = true := by decide +kernel
theorem ck5_3467 : bl5 3467 = true := by decide +kernel
theorem ck5_3468 : bl5 3468 = true := by decide +kernel
theorem ck5_3469 : bl5 3469 = true := by decide +kernel
theorem ck5_3470 : bl5 3470 = true := by decide +kernel
theorem ck5_3471 : bl5 3471 = true := by decide +kernel
theorem ck5_3472 : bl5 3472 = true := by decide +kernel
theorem ck5_3473 : bl5 3473 = true := by decide +kernel
theorem ck5_3474 : bl5 3474 = true := by decide +kernel
theorem ck5_3475 : bl5 3475 = true := by decide +kernel
theorem ck5_3476 : bl5 3476 = true := by decide +kernel
theorem ck5_3477 : bl5 3477 = true := by decide +kernel
theorem ck5_3478 : bl5 3478 = true := by decide +kernel
theorem ck5_3479 : bl5 3479 = true := by decide +kernel
theorem ck5_3480 : bl5 3480 = true := by decide +kernel
theorem ck5_3481 : bl5 3481 = true := by decide +kernel
theorem ck5_3482 : bl5 3482 = true := by decide +kernel
theorem ck5_3483 : bl5 3483 = true := by decide +kernel
theorem ck5_3484 : bl5 3484 = true := by decide +kernel
theorem ck5_3485 : bl5 3485 = true := by decide +kernel
theorem ck5_3486 : bl5 3486 = true := by decide +kernel
theorem ck5_3487 : bl5 3487 = true := by decide +kernel
theorem ck5_3488 : bl5 3488 = true := by decide +kernel
theorem ck5_3489 : bl5 3489 = true := by decide +kernel
theorem ck5_3490 : bl5 3490 = true := by decide +kernel
theorem ck5_3491 : bl5 3491 = true := by decide +kernel
theorem ck5_3492 : bl5 3492 = true := by decide +kernel
theorem ck5_3493 : bl5 3493 = true := by decide +kernel
theorem ck5_3494 : bl5 3494 = true := by decide +kernel
theorem ck5_3495 : bl5 3495 = true := by decide +kernel
theorem ck5_3496 : bl5 3496 = true := by decide +kernel
theorem ck5_3497 : bl5 3497 = true := by decide +kernel
theorem ck5_3498 : bl5 3498 = true := by decide +kernel
theorem ck5_3499 : bl5 3499 = true := by decide +kernel
theorem ck5_3500 : bl5 3500 = true := by decide +kernel
theorem ck5_3501 : bl5 3501 = true := by decide +kernel
theorem ck5_3502 : bl5 3502 = true := by decide +kernel
theorem ck5_3503 : bl5 3503 = true := by decide +kernel
theorem ck5_3504 : bl5 3504 = true := by decide +kernel
theorem ck5_3505 : bl5 3505 = true := by decide +kernel
theorem ck5_3506 : bl5 3506 = true := by decide +kernel
theorem ck5_3507 : bl5 3507 = true := by decide +kernel
theorem ck5_3508 : bl5 3508 = true := by decide +kernel
theorem ck5_3509 : bl5 3509 = true := by decide +kernel
theorem ck5_3510 : bl5 3510 = true := by decide +kernel
theorem ck5_3511 : bl5 3511 = true := by decide +kernel
theorem ck5_3512 : bl5 3512 = true := by decide +kernel
theorem ck5_3513 : bl5 3513 = true := by decide +kernel
theorem ck5_3514 : bl5 3514 = true := by decide +kernel
theorem ck5_3515 : bl5 3515 = true := by decide +kernel
theorem ck5_3516 : bl5 3516 = true := by decide +kernel
theorem ck5_3517 : bl5 3517 = true := by decide +kernel
theorem ck5_3518 : bl5 3518 = true := by decide +kernel
theorem ck5_3519 : bl5 3519 = true := by decide +kernel
theorem ck5_3520 : bl5 3520 = true := by decide +kernel
theorem ck5_3521 : bl5 3521 = true := by decide +kernel
theorem ck5_3522 : bl5 3522 = true := by decide +kernel
theorem ck5_3523 : bl5 3523 = true := by decide +kernel
theorem ck5_3524 : bl5 3524 = true := by decide +kernel
theorem ck5_3525 : bl5 3525 = true := by decide +kernel
theorem ck5_3526 : bl5 3526 = true := by decide +kernel
theorem ck5_3527 : bl5 3527 = true := by decide +kernel
theorem ck5_3528 : bl5 3528 = true := by decide +kernel
theorem ck5_3529 : bl5 3529 = true := by decide +kernel
theorem ck5_3530 : bl5 3530 = true := by decide +kernel
theorem ck5_3531 : bl5 3531 = true := by decide +kernel
theorem ck5_3532 : bl5 3532 = true := by decide +kernel
theorem ck5_3533 : bl5 3533 = true := by decide +kernel
theorem ck5_3534 : bl5 3534 = true := by decide +kernel
theorem ck5_3535 : bl5 3535 = true := by decide +kernel
theorem ck5_3536 : bl5 3536 = true := by decide +kernel
theorem ck5_3537 : bl5 3537 = true := by decide +kernel
theorem ck5_3538 : bl5 3538 = true := by decide +kernel
theorem ck5_3539 : bl5 3539 = true := by decide +kernel
theorem ck5_3540 : bl5 3540 = true := by decide +kernel
theorem ck5_3541 : bl5 3541 = true := by decide +kernel
theorem ck5_3542 : bl5 3542 = true := by decide +kernel
theorem ck5_3543 : bl5 3543 = true := by decide +kernel
theorem ck5_3544 : bl5 3544 = true := by decide +kernel
theorem ck5_3545 : bl5 3545 = true := by decide +kernel
theorem ck5_3546 : bl5 3546 = true := by decide +kernel
theorem ck5_3547 : bl5 3547 = true := by decide +kernel
theorem ck5_3548 : bl5 3548 = true := by decide +kernel
theorem ck5_3549 : bl5 3549 = true := by decide +kernel
theorem ck5_3550 : bl5 3550 = true := by decide +kernel
theorem ck5_3551 : bl5 3551 = true := by decide +kernel
theorem ck5_3552 : bl5 3552 = true := by decide +kernel
theorem ck5_3553 : bl5 3553 = true := by decide +kernel
theorem ck5_3554 : bl5 3554 = true := by decide +kernel
theorem ck5_3555 : bl5 3555 = true := by decide +kernel
theorem ck5_3556 : bl5 3556 = true := by decide +kernel
theorem ck5_3557 : bl5 3557 = true := by decide +kernel
theorem ck5_3558 : bl5 3558 = true := by decide +kernel
theorem ck5_3559 : bl5 3559 = true := by decide +kernel
theorem ck5_3560 : bl5 3560 = true := by decide +kernel
theorem ck5_3561 : bl5 3561 = true := by decide +kernel
theorem ck5_3562 : bl5 3562 = true := by decide +kernel
theorem ck5_3563 : bl5 3563 = true := by decide +kernel
theorem ck5_3564 : bl5 3564 = true := by decide +kernel
theorem ck5_3565 : bl5 3565 = true := by decide +kernel
theorem ck5_3566 : bl5 3566 = true := by decide +kernel
theorem ck5_3567 : bl5 3567 = true := by decide +kernel
theorem ck5_3568 : bl5 3568 = true := by decide +kernel
theorem ck5_3569 : bl5 3569 = true := by decide +kernel
theorem ck5_3570 : bl5 3570 = true := by decide +kernel
theorem ck5_3571 : bl5 3571 = true := by decide +kernel
theorem ck5_3572 : bl5 3572 = true := by decide +kernel
theorem ck5_3573 : bl5 3573 = true := by decide +kernel
theorem ck5_3574 : bl5 3574 = true := by decide +kernel
theorem ck5_3575 : bl5 3575 = true := by decide +kernel
theorem ck5_3576 : bl5 3576 = true := by decide +kernel
theorem ck5_3577 : bl5 3577 = true := by decide +kernel
theorem ck5_3578 : bl5 3578 = true := by decide +kernel
theorem ck5_3579 : bl5 3579 = true := by decide +kernel
theorem ck5_3580 : bl5 3580 = true := by decide +kernel
theorem ck5_3581 : bl5 3581 = true := by decide +kernel
theorem ck5_3582 : bl5 3582 = true := by decide +kernel
theorem ck5_3583 : bl5 3583 = true := by decide +kernel
theorem ck5_3584 : bl5 3584 = true := by decide +kernel
theorem ck5_3585 : bl5 3585 = true := by decide +kernel
theorem ck5_3586 : bl5 3586 = true := by decide +kernel
theorem ck5_3587 : bl5 3587 = true := by decide +kernel
theorem ck5_3588 : bl5 3588 = true := by decide +kernel
theorem ck5_3589 : bl5 3589 = true := by decide +kernel
theorem ck5_3590 : bl5 3590 = true := by decide +kernel
theorem ck5_3591 : bl5 3591 = true := by decide +kernel
theorem ck5_3592 : bl5 3592 = true := by decide +kernel
theorem ck5_3593 : bl5 3593 = true := by decide +kernel
theorem ck5_3594 : bl5 3594 = true := by decide +kernel
theorem ck5_3595 : bl5 3595 = true := by decide +kernel
theorem ck5_3596 : bl5 3596 = true := by decide +kernel
theorem ck5_3597 : bl5 3597 = true := by decide +kernel
theorem ck5_3598 : bl5 3598 = true := by decide +kernel
theorem ck5_3599 : bl5 3599 = true := by decide +kernel
theorem ck5_3600 : bl5 3600 = true := by decide +kernel
theorem ck5_3601 : bl5 3601 = true := by decide +kernel
theorem ck5_3602 : bl5 3602 = true := by decide +kernel
theorem ck5_3603 : bl5 3603 = true := by decide +kernel
theorem ck5_3604 : bl5 3604 = true := by decide +kernel
theorem ck5_3605 : bl5 3605 = true := by decide +kernel
theorem ck5_3606 : bl5 3606 = true := by decide +kernel
theorem ck5_3607 : bl5 3607 = true := by decide +kernel
theorem ck5_3608 : bl5 3608 = true := by decide +kernel
theorem ck5_3609 : bl5 3609 = true := by decide +kernel
theorem ck5_3610 : bl5 3610 = true := by decide +kernel
theorem ck5_3611 : bl5 3611 = true := by decide +kernel
theorem ck5_3612 : bl5 3612 = true := by decide +kernel
theorem ck5_3613 : bl5 3613 = true := by decide +kernel
theorem ck5_3614 : bl5 3614 = true := by decide +kernel
theorem ck5_3615 : bl5 3615 = true := by decide +kernel
theorem ck5_3616 : bl5 3616 = true := by decide +kernel
theorem ck5_3617 : bl5 3617 = true := by decide +kernel
theorem ck5_3618 : bl5 3618 = true := by decide +kernel
theorem ck5_3619 : bl5 3619 = true := by decide +kernel
theorem ck5_3620 : bl5 3620 = true := by decide +kernel
theorem ck5_3621 : bl5 3621 = true := by decide +kernel
theorem ck5_3622 : bl5 3622 = true := by decide +kernel
theorem ck5_3623 : bl5 3623 = true := by decide +kernel
theorem ck5_3624 : bl5 3624 = true := by decide +kernel
theorem ck5_3625 : bl5 3625 = true := by decide +kernel
theorem ck5_3626 : bl5 3626 = true := by decide +kernel
theorem ck5_3627 : bl5 3627 = true := by decide +kernel
theorem ck5_3628 : bl5 3628 = true := by decide +kernel
theorem ck5_3629 : bl5 3629 = true := by decide +kernel
theorem ck5_3630 : bl5 3630 = true := by decide +kernel
theorem ck5_3631 : bl5 3631 = true := by decide +kernel
theorem ck5_3632 : bl5 3632 = true := by decide +kernel
theorem ck5_3633 : bl5 3633 = true := by decide +kernel
theorem ck5_3634 : bl5 3634 = true := by decide +kernel
theorem ck5_3635 : bl5 3635 = true := by decide +kernel
theorem ck5_3636 : bl5 3636 = true := by decide +kernel
theorem ck5_3637 : bl5 3637 = true := by decide +kernel
theorem ck5_3638 : bl5 3638 = true := by decide +kernel
theorem ck5_3639 : bl5 3639 = true := by decide +kernel
theorem ck5_3640 : bl5 3640 = true := by decide +kernel
theorem ck5_3641 : bl5 3641 = true := by decide +kernel
theorem ck5_3642 : bl5 3642 = true := by decide +kernel
theorem ck5_3643 : bl5 3643 = true := by decide +kernel
theorem ck5_3644 : bl5 3644 = true := by decide +kernel
theorem ck5_3645 : bl5 3645 = true := by decide +kernel
theorem ck5_3646 : bl5 3646 = true := by decide +kernel
theorem ck5_3647 : bl5 3647 = true := by decide +kernel
theorem ck5_3648 : bl5 3648 = true := by decide +kernel
theorem ck5_3649 : bl5 3649 = true := by decide +kernel
theorem ck5_3650 : bl5 3650 = true := by decide +kernel
theorem ck5_3651 : bl5 3651 = true := by decide +kernel
theorem ck5_3652 : bl5 3652 = true := by decide +kernel
theorem ck5_3653 : bl5 3653 = true := by decide +kernel
theorem ck5_3654 : bl5 3654 = true := by decide +kernel
theorem ck5_3655 : bl5 3655 = true := by decide +kernel
theorem ck5_3656 : bl5 3656 = true := by decide +kernel
theorem ck5_3657 : bl5 3657 = true := by decide +kernel
theorem ck5_3658 : bl5 3658 = true := by decide +kernel
theorem ck5_3659 : bl5 3659 = true := by decide +kernel
theorem ck5_3660 : bl5 3660 = true := by decide +kernel
theorem ck5_3661 : bl5 3661 = true := by decide +kernel
theorem ck5_3662 : bl5 3662 = true := by decide +kernel
theorem ck5_3663 : bl5 3663 = true := by decide +kernel
theorem ck5_3664 : bl5 3664 = true := by decide +kernel
theorem ck5_3665 : bl5 3665 = true := by decide +kernel
theorem ck5_3666 : bl5 3666 = true := by decide +kernel
theorem ck5_3667 : bl5 3667 = true := by decide +kernel
theorem ck5_3668 : bl5 3668 = true := by decide +kernel
theorem ck5_3669 : bl5 3669 = true := by decide +kernel
theorem ck5_3670 : bl5 3670 = true := by decide +kernel
theorem ck5_3671 : bl5 3671 = true := by decide +kernel
theorem ck5_3672 : bl5 3672 = true := by decide +kernel
theorem ck5_3673 : bl5 3673 = true := by decide +kernel
theorem ck5_3674 : bl5 3674 = true := by decide +kernel
theorem ck5_3675 : bl5 3675 = true := by decide +kernel
theorem ck5_3676 : bl5 3676 = true := by decide +kernel
theorem ck5_3677 : bl5 3677 = true := by decide +kernel
theorem ck5_3678 : bl5 3678 = true := by decide +kernel
theorem ck5_3679 : bl5 3679 = true := by decide +kernel
theorem ck5_3680 : bl5 3680 = true := by decide +kernel
theorem ck5_3681 : bl5 3681 = true := by decide +kernel
theorem ck5_3682 : bl5 3682 = true := by decide +kernel
theorem ck5_3683 : bl5 3683 = true := by decide +kernel
theorem ck5_3684 : bl5 3684 = true := by decide +kernel
theorem ck5_3685 : bl5 3685 = true := by decide +kernel
theorem ck5_3686 : bl5 3686 = true := by decide +kernel
theorem ck5_3687 : bl5 3687 = true := by decide +kernel
theorem ck5_3688 : bl5 3688 = true := by decide +kernel
theorem ck5_3689 : bl5 3689 = true := by decide +kernel
theorem ck5_3690 : bl5 3690 = true := by decide +kernel
theorem ck5_3691 : bl5 3691 = true := by decide +kernel
theorem ck5_3692 : bl5 3692 = true := by decide +kernel
theorem ck5_3693 : bl5 3693 = true := by decide +kernel
theorem ck5_3694 : bl5 3694 = true := by decide +kernel
theorem ck5_3695 : bl5 3695 = true := by decide +kernel
theorem ck5_3696 : bl5 3696 = true := by decide +kernel
theorem ck5_3697 : bl5 3697 = true := by decide +kernel
theorem ck5_3698 : bl5 3698 = true := by decide +kernel
theorem ck5_3699 : bl5 3699 = true := by decide +kernel
theorem ck5_3700 : bl5 3700 = true := by decide +kernel
theorem ck5_3701 : bl5 3701 = true := by decide +kernel
theorem ck5_3702 : bl5 3702 = true := by decide +kernel
theorem ck5_3703 : bl5 3703 = true := by decide +kernel
theorem ck5_3704 : bl5 3704 = true := by decide +kernel
theorem ck5_3705 : bl5 3705 = true := by decide +kernel
theorem ck5_3706 : bl5 3706 = true := by decide +kernel
theorem ck5_3707 : bl5 3707 = true := by decide +kernel
theorem ck5_3708 : bl5 3708 = true := by decide +kernel
theorem ck5_3709 : bl5 3709 = true := by decide +kernel
theorem ck5_3710 : bl5 3710 = true := by decide +kernel
theorem ck5_3711 : bl5 3711 = true := by decide +kernel
theorem ck5_3712 : bl5 3712 = true := by decide +kernel
theorem ck5_3713 : bl5 3713 = true := by decide +kernel
theorem ck5_3714 : bl5 3714 = true := by decide +kernel
theorem ck5_3715 : bl5 3715 = true := by decide +kernel
theorem ck5_3716 : bl5 3716 = true := by decide +kernel
theorem ck5_3717 : bl5 3717 = true := by decide +kernel
theorem ck5_3718 : bl5 3718 = true := by decide +kernel
theorem ck5_3719 : bl5 3719 = true := by decide +kernel
theorem ck5_3720 : bl5 3720 = true := by decide +kernel
theorem ck5_3721 : bl5 3721 = true := by decide +kernel
theorem ck5_3722 : bl5 3722 = true := by decide +kernel
theorem ck5_3723 : bl5 3723 = true := by decide +kernel
theorem ck5_3724 : bl5 3724 = true := by decide +kernel
theorem ck5_3725 : bl5 3725 = true := by decide +kernel
theorem ck5_3726 : bl5 3726 = true := by decide +kernel
theorem ck5_3727 : bl5 3727 = true := by decide +kernel
theorem ck5_3728 : bl5 3728 = true := by decide +kernel
theorem ck5_3729 : bl5 3729 = true := by decide +kernel
theorem ck5_3730 : bl5 3730 = true := by decide +kernel
theorem ck5_3731 : bl5 3731 = true := by decide +kernel
theorem ck5_3732 : bl5 3732 = true := by decide +kernel
theorem ck5_3733 : bl5 3733 = true := by decide +kernel
theorem ck5_3734 : bl5 3734 = true := by decide +kernel
theorem ck5_3735 : bl5 3735 = true := by decide +kernel
theorem ck5_3736 : bl5 3736 = true := by decide +kernel
theorem ck5_3737 : bl5 3737 = true := by decide +kernel
theorem ck5_3738 : bl5 3738 = true := by decide +kernel
theorem ck5_3739 : bl5 3739 = true := by decide +kernel
theorem ck5_3740 : bl5 3740 = true := by decide +kernel
theorem ck5_3741 : bl5 3741 = true := by decide +kernel
theorem ck5_3742 : bl5 3742 = true := by decide +kernel
theorem ck5_3743 : bl5 3743 = true := by decide +kernel
theorem ck5_3744 : bl5 3744 = true := by decide +kernel
theorem ck5_3745 : bl5 3745 = true := by decide +kernel
theorem ck5_3746 : bl5 3746 = true := by decide +kernel
theorem ck5_3747 : bl5 3747 = true := by decide +kernel
theorem ck5_3748 : bl5 3748 = true := by decide +kernel
theorem ck5_3749 : bl5 3749 = true := by decide +kernel
theorem ck5_3750 : bl5 3750 = true := by decide +kernel
theorem ck5_3751 : bl5 3751 = true := by decide +kernel
theorem ck5_3752 : bl5 3752 = true := by decide +kernel
theorem ck5_3753 : bl5 3753 = true := by decide +kernel
theorem ck5_3754 : bl5 3754 = true := by decide +kernel
theorem ck5_3755 : bl5 3755 = true := by decide +kernel
theorem ck5_3756 : bl5 3756 = true := by decide +kernel
theorem ck5_3757 : bl5 3757 = true := by decide +kernel
theorem ck5_3758 : bl5 3758 = true := by decide +kernel
theorem ck5_3759 : bl5 3759 = true := by decide +kernel
theorem ck5_3760 : bl5 3760 = true := by decide +kernel
theorem ck5_3761 : bl5 3761 = true := by decide +kernel
theorem ck5_3762 : bl5 3762 = true := by decide +kernel
theorem ck5_3763 : bl5 3763 = true := by decide +kernel
theorem ck5_3764 : bl5 3764 = true := by decide +kernel
theorem ck5_3765 : bl5 3765 = true := by decide +kernel
theorem ck5_3766 : bl5 3766 = true := by decide +kernel
theorem ck5_3767 : bl5 3767 = true := by decide +kernel
theorem ck5_3768 : bl5 3768 = true := by decide +kernel
theorem ck5_3769 : bl5 3769 = true := by decide +kernel
theorem ck5_3770 : bl5 3770 = true := by decide +kernel
theorem ck5_3771 : bl5 3771 = true := by decide +kernel
theorem ck5_3772 : bl5 3772 = true := by decide +kernel
theorem ck5_3773 : bl5 3773 = true := by decide +kernel
theorem ck5_3774 : bl5 3774 = true := by decide +kernel
theorem ck5_3775 : bl5 3775 = true := by decide +kernel
theorem ck5_3776 : bl5 3776 = true := by decide +kernel
theorem ck5_3777 : bl5 3777 = true := by decide +kernel
theorem ck5_3778 : bl5 3778 = true := by decide +kernel
theorem ck5_3779 : bl5 3779 = true := by decide +kernel
theorem ck5_3780 : bl5 3780 = true := by decide +kernel
theorem ck5_3781 : bl5 3781 = true := by decide +kernel
theorem ck5_3782 : bl5 3782 = true := by decide +kernel
theorem ck5_3783 : bl5 3783 = true := by decide +kernel
theorem ck5_3784 : bl5 3784 = true := by decide +kernel
theorem ck5_3785 : bl5 3785 = true := by decide +kernel
theorem ck5_3786 : bl5 3786 = true := by decide +kernel
theorem ck5_3787 : bl5 3787 = true := by decide +kernel
theorem ck5_3788 : bl5 3788 = true := by decide +kernel
theorem ck5_3789 : bl5 3789 = true := by decide +kernel
theorem ck5_3790 : bl5 3790 = true := by decide +kernel
theorem ck5_3791 : bl5 3791 = true := by decide +kernel
theorem ck5_3792 : bl5 3792 = true := by decide +kernel
theorem ck5_3793 : bl5 3793 = true := by decide +kernel
theorem ck5_3794 : bl5 3794 = true := by decide +kernel
theorem ck5_3795 : bl5 3795 = true := by decide +kernel
theorem ck5_3796 : bl5 3796 = true := by decide +kernel
theorem ck5_3797 : bl5 3797 = true := by decide +kernel
theorem ck5_3798 : bl5 3798 = true := by decide +kernel
theorem ck5_3799 : bl5 3799 = true := by decide +kernel
theorem ck5_3800 : bl5 3800 = true := by decide +kernel
theorem ck5_3801 : bl5 3801 = true := by decide +kernel
theorem ck5_3802 : bl5 3802 = true := by decide +kernel
theorem ck5_3803 : bl5 3803 = true := by decide +kernel
theorem ck5_3804 : bl5 3804 = true := by decide +kernel
theorem ck5_3805 : bl5 3805 = true := by decide +kernel
theorem ck5_3806 : bl5 3806 = true := by decide +kernel
theorem ck5_3807 : bl5 3807 = true := by decide +kernel
theorem ck5_3808 : bl5 3808 = true := by decide +kernel
theorem ck5_3809 : bl5 3809 = true := by decide +kernel
theorem ck5_3810 : bl5 3810 = true := by decide +kernel
theorem ck5_3811 : bl5 3811 = true := by decide +kernel
theorem ck5_3812 : bl5 3812 = true := by decide +kernel
theorem ck5_3813 : bl5 3813 = true := by decide +kernel
theorem ck5_3814 : bl5 3814 = true := by decide +kernel
theorem ck5_3815 : bl5 3815 = true := by decide +kernel
theorem ck5_3816 : bl5 3816 = true := by decide +kernel
theorem ck5_3817 : bl5 3817 = true := by decide +kernel
theorem ck5_3818 : bl5 3818 = true := by decide +kernel
theorem ck5_3819 : bl5 3819 = true := by decide +kernel
theorem ck5_3820 : bl5 3820 = true := by decide +kernel
theorem ck5_3821 : bl5 3821 = true := by decide +kernel
theorem ck5_3822 : bl5 3822 = true := by decide +kernel
theorem ck5_3823 : bl5 3823 = true := by decide +kernel
theorem ck5_3824 : bl5 3824 = true := by decide +kernel
theorem ck5_3825 : bl5 3825 = true := by decide +kernel
theorem ck5_3826 : bl5 3826 = true := by decide +kernel
theorem ck5_3827 : bl5 3827 = true := by decide +kernel
theorem ck5_3828 : bl5 3828 = true := by decide +kernel
theorem ck5_3829 : bl5 3829 = true := by decide +kernel
theorem ck5_3830 : bl5 3830 = true := by decide +kernel
theorem ck5_3831 : bl5 3831 = true := by decide +kernel
theorem ck5_3832 : bl5 3832 = true := by decide +kernel
theorem ck5_3833 : bl5 3833 = true := by decide +kernel
theorem ck5_3834 : bl5 3834 = true := by decide +kernel
theorem ck5_3835 : bl5 3835 = true := by decide +kernel
theorem ck5_3836 : bl5 3836 = true := by decide +kernel
theorem ck5_3837 : bl5 3837 = true := by decide +kernel
theorem ck5_3838 : bl5 3838 = true := by decide +kernel
theorem ck5_3839 : bl5 3839 = true := by decide +kernel
theorem ck5_3840 : bl5 3840 = true := by decide +kernel
theorem ck5_3841 : bl5 3841 = true := by decide +kernel
theorem ck5_3842 : bl5 3842 = true := by decide +kernel
theorem ck5_3843 : bl5 3843 = true := by decide +kernel
theorem ck5_3844 : bl5 3844 = true := by decide +kernel
theorem ck5_3845 : bl5 3845 = true := by decide +kernel
theorem ck5_3846 : bl5 3846 = true := by decide +kernel
theorem ck5_3847 : bl5 3847 = true := by decide +kernel
theorem ck5_3848 : bl5 3848 = true := by decide +kernel
theorem ck5_3849 : bl5 3849 = true := by decide +kernel
theorem ck5_3850 : bl5 3850 = true := by decide +kernel
theorem ck5_3851 : bl5 3851 = true := by decide +kernel
theorem ck5_3852 : bl5 3852 = true := by decide +kernel
theorem ck5_3853 : bl5 3853 = true := by decide +kernel
theorem ck5_3854 : bl5 3854 = true := by decide +kernel
theorem ck5_3855 : bl5 3855 = true := by decide +kernel
theorem ck5_3856 : bl5 3856 = true := by decide +kernel
theorem ck5_3857 : bl5 3857 = true := by decide +kernel
theorem ck5_3858 : bl5 3858 = true := by decide +kernel
theorem ck5_3859 : bl5 3859 = true := by decide +kernel
theorem ck5_3860 : bl5 3860 = true := by decide +kernel
theorem ck5_3861 : bl5 3861 = true := by decide +kernel
theorem ck5_3862 : bl5 3862 = true := by decide +kernel
theorem ck5_3863 : bl5 3863 = true := by decide +kernel
theorem ck5_3864 : bl5 3864 = true := by decide +kernel
theorem ck5_3865 : bl5 3865 = true := by decide +kernel
theorem ck5_3866 : bl5 3866 = true := by decide +kernel
theorem ck5_3867 : bl5 3867 = true := by decide +kernel
theorem ck5_3868 : bl5 3868 = true := by decide +kernel
theorem ck5_3869 : bl5 3869 = true := by decide +kernel
theorem ck5_3870 : bl5 3870 = true := by decide +kernel
theorem ck5_3871 : bl5 3871 = true := by decide +kernel
theorem ck5_3872 : bl5 3872 = true := by decide +kernel
theorem ck5_3873 : bl5 3873 = true := by decide +kernel
theorem ck5_3874 : bl5 3874 = true := by decide +kernel
theorem ck5_3875 : bl5 3875 = true := by decide +kernel
theorem ck5_3876 : bl5 3876 = true := by decide +kernel
theorem ck5_3877 : bl5 3877 = true := by decide +kernel
theorem ck5_3878 : bl5 3878 = true := by decide +kernel
theorem ck5_3879 : bl5 3879 = true := by decide +kernel
theorem ck5_3880 : bl5 3880 = true := by decide +kernel
theorem ck5_3881 : bl5 3881 = true := by decide +kernel
theorem ck5_3882 : bl5 3882 = true := by decide +kernel
theorem ck5_3883 : bl5 3883 = true := by decide +kernel
theorem ck5_3884 : bl5 3884 = true := by decide +kernel
theorem ck5_3885 : bl5 3885 = true := by decide +kernel
theorem ck5_3886 : bl5 3886 = true := by decide +kernel
theorem ck5_3887 : bl5 3887 = true := by decide +kernel
theorem ck5_3888 : bl5 3888 = true := by decide +kernel
theorem ck5_3889 : bl5 3889 = true := by decide +kernel
theorem ck5_3890 : bl5 3890 = true := by decide +kernel
theorem ck5_3891 : bl5 3891 = true := by decide +kernel
theorem ck5_3892 : bl5 3892 = true := by decide +kernel
theorem ck5_3893 : bl5 3893 = true := by decide +kernel
theorem ck5_3894 : bl5 3894 = true := by decide +kernel
theorem ck5_3895 : bl5 3895 = true := by decide +kernel
theorem ck5_3896 : bl5 3896 = true := by decide +kernel
theorem ck5_3897 : bl5 3897 = true := by decide +kernel
theorem ck5_3898 : bl5 3898 = true := by decide +kernel
theorem ck5_3899 : bl5 3899 = true := by decide +kernel
theorem ck5_3900 : bl5 3900 = true := by decide +kernel
theorem ck5_3901 : bl5 3901 = true := by decide +kernel
theorem ck5_3902 : bl5 3902 = true := by decide +kernel
theorem ck5_3903 : bl5 3903 = true := by decide +kernel
theorem ck5_3904 : bl5 3904 = true := by decide +kernel
theorem ck5_3905 : bl5 3905 = true := by decide +kernel
theorem ck5_3906 : bl5 3906 = true := by decide +kernel
theorem ck5_3907 : bl5 3907 = true := by decide +kernel
theorem ck5_3908 : bl5 3908 = true := by decide +kernel
theorem ck5_3909 : bl5 3909 = true := by decide +kernel
theorem ck5_3910 : bl5 3910 = true := by decide +kernel
theorem ck5_3911 : bl5 3911 = true := by decide +kernel
theorem ck5_3912 : bl5 3912 = true := by decide +kernel
theorem ck5_3913 : bl5 3913 = true := by decide +kernel
theorem ck5_3914 : bl5 3914 = true := by decide +kernel
theorem ck5_3915 : bl5 3915 = true := by decide +kernel
theorem ck5_3916 : bl5 3916 = true := by decide +kernel
theorem ck5_3917 : bl5 3917 = true := by decide +kernel
theorem ck5_3918 : bl5 3918 = true := by decide +kernel
theorem ck5_3919 : bl5 3919 = true := by decide +kernel
theorem ck5_3920 : bl5 3920 = true := by decide +kernel
theorem ck5_3921 : bl5 3921 = true := by decide +kernel
theorem ck5_3922 : bl5 3922 = true := by decide +kernel
theorem ck5_3923 : bl5 3923 = true := by decide +kernel
theorem ck5_3924 : bl5 3924 = true := by decide +kernel
theorem ck5_3925 : bl5 3925 = true := by decide +kernel
theorem ck5_3926 : bl5 3926 = true := by decide +kernel
theorem ck5_3927 : bl5 3927 = true := by decide +kernel
theorem ck5_3928 : bl5 3928 = true := by decide +kernel
theorem ck5_3929 : bl5 3929 = true := by decide +kernel
theorem ck5_3930 : bl5 3930 = true := by decide +kernel
theorem ck5_3931 : bl5 3931 = true := by decide +kernel
theorem ck5_3932 : bl5 3932 = true := by decide +kernel
theorem ck5_3933 : bl5 3933 = true := by decide +kernel
theorem ck5_3934 : bl5 3934 = true := by decide +kernel
theorem ck5_3935 : bl5 3935 = true := by decide +kernel
theorem ck5_3936 : bl5 3936 = true := by decide +kernel
theorem ck5_3937 : bl5 3937 = true := by decide +kernel
theorem ck5_3938 : bl5 3938 = true := by decide +kernel
theorem ck5_3939 : bl5 3939 = true := by decide +kernel
theorem ck5_3940 : bl5 3940 = true := by decide +kernel
theorem ck5_3941 : bl5 3941 = true := by decide +kernel
theorem ck5_3942 : bl5 3942 = true := by decide +kernel
theorem ck5_3943 : bl5 3943 = true := by decide +kernel
theorem ck5_3944 : bl5 3944 = true := by decide +kernel
theorem ck5_3945 : bl5 3945 = true := by decide +kernel
theorem ck5_3946 : bl5 3946 = true := by decide +kernel
theorem ck5_3947 : bl5 3947 = true := by decide +kernel
theorem ck5_3948 : bl5 3948 = true := by decide +kernel
theorem ck5_3949 : bl5 3949 = true := by decide +kernel
theorem ck5_3950 : bl5 3950 = true := by decide +kernel
theorem ck5_3951 : bl5 3951 = true := by decide +kernel
theorem ck5_3952 : bl5 3952 = true := by decide +kernel
theorem ck5_3953 : bl5 3953 = true := by decide +kernel
theorem ck5_3954 : bl5 3954 = true := by decide +kernel
theorem ck5_3955 : bl5 3955 = true := by decide +kernel
theorem ck5_3956 : bl5 3956 = true := by decide +kernel
theorem ck5_3957 : bl5 3957 = true := by decide +kernel
theorem ck5_3958 : bl5 3958 = true := by decide +kernel
theorem ck5_3959 : bl5 3959 = true := by decide +kernel
theorem ck5_3960 : bl5 3960 = true := by decide +kernel
theorem ck5_3961 : bl5 3961 = true := by decide +kernel
theorem ck5_3962 : bl5 3962 = true := by decide +kernel
theorem ck5_3963 : bl5 3963 = true := by decide +kernel
theorem ck5_3964 : bl5 3964 = true := by decide +kernel
theorem ck5_3965 : bl5 3965 = true := by decide +kernel
theorem ck5_3966 : bl5 3966 = true := by decide +kernel
theorem ck5_3967 : bl5 3967 = true := by decide +kernel
theorem ck5_3968 : bl5 3968 = true := by decide +kernel
theorem ck5_3969 : bl5 3969 = true := by decide +kernel
theorem ck5_3970 : bl5 3970 = true := by decide +kernel
theorem ck5_3971 : bl5 3971 = true := by decide +kernel
theorem ck5_3972 : bl5 3972 = true := by decide +kernel
theorem ck5_3973 : bl5 3973 = true := by decide +kernel
theorem ck5_3974 : bl5 3974 = true := by decide +kernel
theorem ck5_3975 : bl5 3975 = true := by decide +kernel
theorem ck5_3976 : bl5 3976 = true := by decide +kernel
theorem ck5_3977 : bl5 3977 = true := by decide +kernel
theorem ck5_3978 : bl5 3978 = true := by decide +kernel
theorem ck5_3979 : bl5 3979 = true := by decide +kernel
theorem ck5_3980 : bl5 3980 = true := by decide +kernel
theorem ck5_3981 : bl5 3981 = true := by decide +kernel
theorem ck5_3982 : bl5 3982 = true := by decide +kernel
theorem ck5_3983 : bl5 3983 = true := by decide +kernel
theorem ck5_3984 : bl5 3984 = true := by decide +kernel
theorem ck5_3985 : bl5 3985 = true := by decide +kernel
theorem ck5_3986 : bl5 3986 = true := by decide +kernel
theorem ck5_3987 : bl5 3987 = true := by decide +kernel
theorem ck5_3988 : bl5 3988 = true := by decide +kernel
theorem ck5_3989 : bl5 3989 = true := by decide +kernel
theorem ck5_3990 : bl5 3990 = true := by decide +kernel
theorem ck5_3991 : bl5 3991 = true := by decide +kernel
theorem ck5_3992 : bl5 3992 = true := by decide +kernel
theorem ck5_3993 : bl5 3993 = true := by decide +kernel
theorem ck5_3994 : bl5 3994 = true := by decide +kernel
theorem ck5_3995 : bl5 3995 = true := by decide +kernel
theorem ck5_3996 : bl5 3996 = true := by decide +kernel
theorem ck5_3997 : bl5 3997 = true := by decide +kernel
theorem ck5_3998 : bl5 3998 = true := by decide +kernel
theorem ck5_3999 : bl5 3999 = true := by decide +kernel
theorem ck5_4000 : bl5 4000 = true := by decide +kernel
theorem ck5_4001 : bl5 4001 = true := by decide +kernel
theorem ck5_4002 : bl5 4002 = true := by decide +kernel
theorem ck5_4003 : bl5 4003 = true := by decide +kernel
theorem ck5_4004 : bl5 4004 = true := by decide +kernel
theorem ck5_4005 : bl5 4005 = true := by decide +kernel
theorem ck5_4006 : bl5 4006 = true := by decide +kernel
theorem ck5_4007 : bl5 4007 = true := by decide +kernel
theorem ck5_4008 : bl5 4008 = true := by decide +kernel
theorem ck5_4009 : bl5 4009 = true := by decide +kernel
theorem ck5_4010 : bl5 4010 = true := by decide +kernel
theorem ck5_4011 : bl5 4011 = true := by decide +kernel
theorem ck5_4012 : bl5 4012 = true := by decide +kernel
theorem ck5_4013 : bl5 4013 = true := by decide +kernel
theorem ck5_4014 : bl5 4014 = true := by decide +kernel
theorem ck5_4015 : bl5 4015 = true := by decide +kernel
theorem ck5_4016 : bl5 4016 = true := by decide +kernel
theorem ck5_4017 : bl5 4017 = true := by decide +kernel
theorem ck5_4018 : bl5 4018 = true := by decide +kernel
theorem ck5_4019 : bl5 4019 = true := by decide +kernel
theorem ck5_4020 : bl5 4020 = true := by decide +kernel
theorem ck5_4021 : bl5 4021 = true := by decide +kernel
theorem ck5_4022 : bl5 4022 = true := by decide +kernel
theorem ck5_4023 : bl5 4023 = true := by decide +kernel
theorem ck5_4024 : bl5 4024 = true := by decide +kernel
theorem ck5_4025 : bl5 4025 = true := by decide +kernel
theorem ck5_4026 : bl5 4026 = true := by decide +kernel
theorem ck5_4027 : bl5 4027 = true := by decide +kernel
theorem ck5_4028 : bl5 4028 = true := by decide +kernel
theorem ck5_4029 : bl5 4029 = true := by decide +kernel
theorem ck5_4030 : bl5 4030 = true := by decide +kernel
theorem ck5_4031 : bl5 4031 = true := by decide +kernel
theorem ck5_4032 : bl5 4032 = true := by decide +kernel
theorem ck5_4033 : bl5 4033 = true := by decide +kernel
theorem ck5_4034 : bl5 4034 = true := by decide +kernel
theorem ck5_4035 : bl5 4035 = true := by decide +kernel
theorem ck5_4036 : bl5 4036 = true := by decide +kernel
theorem ck5_4037 : bl5 4037 = true := by decide +kernel
theorem ck5_4038 : bl5 4038 = true := by decide +kernel
theorem ck5_4039 : bl5 4039 = true := by decide +kernel
theorem ck5_4040 : bl5 4040 = true := by decide +kernel
theorem ck5_4041 : bl5 4041 = true := by decide +kernel
theorem ck5_4042 : bl5 4042 = true := by decide +kernel
theorem ck5_4043 : bl5 4043 = true := by decide +kernel
theorem ck5_4044 : bl5 4044 = true := by decide +kernel
theorem ck5_4045 : bl5 4045 = true := by decide +kernel
theorem ck5_4046 : bl5 4046 = true := by decide +kernel
theorem ck5_4047 : bl5 4047 = true := by decide +kernel
theorem ck5_4048 : bl5 4048 = true := by decide +kernel
theorem ck5_4049 : bl5 4049 = true := by decide +kernel
theorem ck5_4050 : bl5 4050 = true := by decide +kernel
theorem ck5_4051 : bl5 4051 = true := by decide +kernel
theorem ck5_4052 : bl5 4052 = true := by decide +kernel
theorem ck5_4053 : bl5 4053 = true := by decide +kernel
theorem ck5_4054 : bl5 4054 = true := by decide +kernel
theorem ck5_4055 : bl5 4055 = true := by decide +kernel
theorem ck5_4056 : bl5 4056 = true := by decide +kernel
theorem ck5_4057 : bl5 4057 = true := by decide +kernel
theorem ck5_4058 : bl5 4058 = true := by decide +kernel
theorem ck5_4059 : bl5 4059 = true := by decide +kernel
theorem ck5_4060 : bl5 4060 = true := by decide +kernel
theorem ck5_4061 : bl5 4061 = true := by decide +kernel
theorem ck5_4062 : bl5 4062 = true := by decide +kernel
theorem ck5_4063 : bl5 4063 = true := by decide +kernel
theorem ck5_4064 : bl5 4064 = true := by decide +kernel
theorem ck5_4065 : bl5 4065 = true := by decide +kernel
theorem ck5_4066 : bl5 4066 = true := by decide +kernel
theorem ck5_4067 : bl5 4067 = true := by decide +kernel
theorem ck5_4068 : bl5 4068 = true := by decide +kernel
theorem ck5_4069 : bl5 4069 = true := by decide +kernel
theorem ck5_4070 : bl5 4070 = true := by decide +kernel
theorem ck5_4071 : bl5 4071 = true := by decide +kernel
theorem ck5_4072 : bl5 4072 = true := by decide +kernel
theorem ck5_4073 : bl5 4073 = true := by decide +kernel
theorem ck5_4074 : bl5 4074 = true := by decide +kernel
theorem ck5_4075 : bl5 4075 = true := by decide +kernel
theorem ck5_4076 : bl5 4076 = true := by decide +kernel
theorem ck5_4077 : bl5 4077 = true := by decide +kernel
theorem ck5_4078 : bl5 4078 = true := by decide +kernel
theorem ck5_4079 : bl5 4079 = true := by decide +kernel
theorem ck5_4080 : bl5 4080 = true := by decide +kernel
theorem ck5_4081 : bl5 4081 = true := by decide +kernel
theorem ck5_4082 : bl5 4082 = true := by decide +kernel
theorem ck5_4083 : bl5 4083 = true := by decide +kernel
theorem ck5_4084 : bl5 4084 = true := by decide +kernel
theorem ck5_4085 : bl5 4085 = true := by decide +kernel
theorem ck5_4086 : bl5 4086 = true := by decide +kernel
theorem ck5_4087 : bl5 4087 = true := by decide +kernel
theorem ck5_4088 : bl5 4088 = true := by decide +kernel
theorem ck5_4089 : bl5 4089 = true := by decide +kernel
theorem ck5_4090 : bl5 4090 = true := by decide +kernel
theorem ck5_4091 : bl5 4091 = true := by decide +kernel
theorem ck5_4092 : bl5 4092 = true := by decide +kernel
theorem ck5_4093 : bl5 4093 = true := by decide +kernel
theorem ck5_4094 : bl5 4094 = true := by decide +kernel
theorem ck5_4095 : bl5 4095 = true := by decide +kernel
theorem ck5_4096 : bl5 4096 = true := by decide +kernel
theorem ck5_4097 : bl5 4097 = true := by decide +kernel
theorem ck5_4098 : bl5 4098 = true := by decide +kernel
theorem ck5_4099 : bl5 4099 = true := by decide +kernel
theorem ck5_4100 : bl5 4100 = true := by decide +kernel
theorem ck5_4101 : bl5 4101 = true := by decide +kernel
theorem ck5_4102 : bl5 4102 = true := by decide +kernel
theorem ck5_4103 : bl5 4103 = true := by decide +kernel
theorem ck5_4104 : bl5 4104 = true := by decide +kernel
theorem ck5_4105 : bl5 4105 = true := by decide +kernel
theorem ck5_4106 : bl5 4106 = true := by decide +kernel
theorem ck5_4107 : bl5 4107 = true := by decide +kernel
theorem ck5_4108 : bl5 4108 = true := by decide +kernel
theorem ck5_4109 : bl5 4109 = true := by decide +kernel
theorem ck5_4110 : bl5 4110 = true := by decide +kernel
theorem ck5_4111 : bl5 4111 = true := by decide +kernel
theorem ck5_4112 : bl5 4112 = true := by decide +kernel
theorem ck5_4113 : bl5 4113 = true := by decide +kernel
theorem ck5_4114 : bl5 4114 = true := by decide +kernel
theorem ck5_4115 : bl5 4115 = true := by decide +kernel
theorem ck5_4116 : bl5 4116 = true := by decide +kernel
theorem ck5_4117 : bl5 4117 = true := by decide +kernel
theorem ck5_4118 : bl5 4118 = true := by decide +kernel
theorem ck5_4119 : bl5 4119 = true := by decide +kernel
theorem ck5_4120 : bl5 4120 = true := by decide +kernel
theorem ck5_4121 : bl5 4121 = true := by decide +kernel
theorem ck5_4122 : bl5 4122 = true := by decide +kernel
theorem ck5_4123 : bl5 4123 = true := by decide +kernel
theorem ck5_4124 : bl5 4124 = true := by decide +kernel
theorem ck5_4125 : bl5 4125 = true := by decide +kernel
theorem ck5_4126 : bl5 4126 = true := by decide +kernel
theorem ck5_4127 : bl5 4127 = true := by decide +kernel
theorem ck5_4128 : bl5 4128 = true := by decide +kernel
theorem ck5_4129 : bl5 4129 = true := by decide +kernel
theorem ck5_4130 : bl5 4130 = true := by decide +kernel
theorem ck5_4131 : bl5 4131 = true := by decide +kernel
theorem ck5_4132 : bl5 4132 = true := by decide +kernel
theorem ck5_4133 : bl5 4133 = true := by decide +kernel
theorem ck5_4134 : bl5 4134 = true := by decide +kernel
theorem ck5_4135 : bl5 4135 = true := by decide +kernel
theorem ck5_4136 : bl5 4136 = true := by decide +kernel
theorem ck5_4137 : bl5 4137 = true := by decide +kernel
theorem ck5_4138 : bl5 4138 = true := by decide +kernel
theorem ck5_4139 : bl5 4139 = true := by decide +kernel
theorem ck5_4140 : bl5 4140 = true := by decide +kernel
theorem ck5_4141 : bl5 4141 = true := by decide +kernel
theorem ck5_4142 : bl5 4142 = true := by decide +kernel
theorem ck5_4143 : bl5 4143 = true := by decide +kernel
theorem ck5_4144 : bl5 4144 = true := by decide +kernel
theorem ck5_4145 : bl5 4145 = true := by decide +kernel
theorem ck5_4146 : bl5 4146 = true := by decide +kernel
theorem ck5_4147 : bl5 4147 = true := by decide +kernel
theorem ck5_4148 : bl5 4148 = true := by decide +kernel
theorem ck5_4149 : bl5 4149 = true := by decide +kernel
theorem ck5_4150 : bl5 4150 = true := by decide +kernel
theorem ck5_4151 : bl5 4151 = true := by decide +kernel
theorem ck5_4152 : bl5 4152 = true := by decide +kernel
theorem ck5_4153 : bl5 4153 = true := by decide +kernel
theorem ck5_4154 : bl5 4154 = true := by decide +kernel
theorem ck5_4155 : bl5 4155 = true := by decide +kernel
theorem ck5_4156 : bl5 4156 = true := by decide +kernel
theorem ck5_4157 : bl5 4157 = true := by decide +kernel
theorem ck5_4158 : bl5 4158 = true := by decide +kernel
theorem ck5_4159 : bl5 4159 = true := by decide +kernel
theorem ck5_4160 : bl5 4160 = true := by decide +kernel
theorem ck5_4161 : bl5 4161 = true := by decide +kernel
theorem ck5_4162 : bl5 4162 = true := by decide +kernel
theorem ck5_4163 : bl5 4163 = true := by decide +kernel
theorem ck5_4164 : bl5 4164 = true := by decide +kernel
theorem ck5_4165 : bl5 4165 = true := by decide +kernel
theorem ck5_4166 : bl5 4166 = true := by decide +kernel
theorem ck5_4167 : bl5 4167 = true := by decide +kernel
theorem ck5_4168 : bl5 4168 = true := by decide +kernel
theorem ck5_4169 : bl5 4169 = true := by decide +kernel
theorem ck5_4170 : bl5 4170 = true := by decide +kernel
theorem ck5_4171 : bl5 4171 = true := by decide +kernel
theorem ck5_4172 : bl5 4172 = true := by decide +kernel
theorem ck5_4173 : bl5 4173 = true := by decide +kernel
theorem ck5_4174 : bl5 4174 = true := by decide +kernel
theorem ck5_4175 : bl5 4175 = true := by decide +kernel
theorem ck5_4176 : bl5 4176 = true := by decide +kernel
theorem ck5_4177 : bl5 4177 = true := by decide +kernel
theorem ck5_4178 : bl5 4178 = true := by decide +kernel
theorem ck5_4179 : bl5 4179 = true := by decide +kernel
theorem ck5_4180 : bl5 4180 = true := by decide +kernel
theorem ck5_4181 : bl5 4181 = true := by decide +kernel
theorem ck5_4182 : bl5 4182 = true := by decide +kernel
theorem ck5_4183 : bl5 4183 = true := by decide +kernel
theorem ck5_4184 : bl5 4184 = true := by decide +kernel
theorem ck5_4185 : bl5 4185 = true := by decide +kernel
theorem ck5_4186 : bl5 4186 = true := by decide +kernel
theorem ck5_4187 : bl5 4187 = true := by decide +kernel
theorem ck5_4188 : bl5 4188 = true := by decide +kernel
theorem ck5_4189 : bl5 4189 = true := by decide +kernel
theorem ck5_4190 : bl5 4190 = true := by decide +kernel
theorem ck5_4191 : bl5 4191 = true := by decide +kernel
theorem ck5_4192 : bl5 4192 = true := by decide +kernel
theorem ck5_4193 : bl5 4193 = true := by decide +kernel
theorem ck5_4194 : bl5 4194 = true := by decide +kernel
theorem ck5_4195 : bl5 4195 = true := by decide +kernel
theorem ck5_4196 : bl5 4196 = true := by decide +kernel
theorem ck5_4197 : bl5 4197 = true := by decide +kernel
theorem ck5_4198 : bl5 4198 = true := by decide +kernel
theorem ck5_4199 : bl5 4199 = true := by decide +kernel
theorem ck5_4200 : bl5 4200 = true := by decide +kernel
theorem ck5_4201 : bl5 4201 = true := by decide +kernel
theorem ck5_4202 : bl5 4202 = true := by decide +kernel
theorem ck5_4203 : bl5 4203 = true := by decide +kernel
theorem ck5_4204 : bl5 4204 = true := by decide +kernel
theorem ck5_4205 : bl5 4205 = true := by decide +kernel
theorem ck5_4206 : bl5 4206 = true := by decide +kernel
theorem ck5_4207 : bl5 4207 = true := by decide +kernel
theorem ck5_4208 : bl5 4208 = true := by decide +kernel
theorem ck5_4209 : bl5 4209 = true := by decide +kernel
theorem ck5_4210 : bl5 4210 = true := by decide +kernel
theorem ck5_4211 : bl5 4211 = true := by decide +kernel
theorem ck5_4212 : bl5 4212 = true := by decide +kernel
theorem ck5_4213 : bl5 4213 = true := by decide +kernel
theorem ck5_4214 : bl5 4214 = true := by decide +kernel
theorem ck5_4215 : bl5 4215 = true := by decide +kernel
theorem ck5_4216 : bl5 4216 = true := by decide +kernel
theorem ck5_4217 : bl5 4217 = true := by decide +kernel
theorem ck5_4218 : bl5 4218 = true := by decide +kernel
theorem ck5_4219 : bl5 4219 = true := by decide +kernel
theorem ck5_4220 : bl5 4220 = true := by decide +kernel
theorem ck5_4221 : bl5 4221 = true := by decide +kernel
theorem ck5_4222 : bl5 4222 = true := by decide +kernel
theorem ck5_4223 : bl5 4223 = true := by decide +kernel
theorem ck5_4224 : bl5 4224 = true := by decide +kernel
theorem ck5_4225 : bl5 4225 = true := by decide +kernel
theorem ck5_4226 : bl5 4226 = true := by decide +kernel
theorem ck5_4227 : bl5 4227 = true := by decide +kernel
theorem ck5_4228 : bl5 4228 = true := by decide +kernel
theorem ck5_4229 : bl5 4229 = true := by decide +kernel
theorem ck5_4230 : bl5 4230 = true := by decide +kernel
theorem ck5_4231 : bl5 4231 = true := by decide +kernel
theorem ck5_4232 : bl5 4232 = true := by decide +kernel
theorem ck5_4233 : bl5 4233 = true := by decide +kernel
theorem ck5_4234 : bl5 4234 = true := by decide +kernel
theorem ck5_4235 : bl5 4235 = true := by decide +kernel
theorem ck5_4236 : bl5 4236 = true := by decide +kernel
theorem ck5_4237 : bl5 4237 = true := by decide +kernel
theorem ck5_4238 : bl5 4238 = true := by decide +kernel
theorem ck5_4239 : bl5 4239 = true := by decide +kernel
theorem ck5_4240 : bl5 4240 = true := by decide +kernel
theorem ck5_4241 : bl5 4241 = true := by decide +kernel
theorem ck5_4242 : bl5 4242 = true := by decide +kernel
theorem ck5_4243 : bl5 4243 = true := by decide +kernel
theorem ck5_4244 : bl5 4244 = true := by decide +kernel
theorem ck5_4245 : bl5 4245 = true := by decide +kernel
theorem ck5_4246 : bl5 4246 = true := by decide +kernel
theorem ck5_4247 : bl5 4247 = true := by decide +kernel
theorem ck5_4248 : bl5 4248 = true := by decide +kernel
theorem ck5_4249 : bl5 4249 = true := by decide +kernel
theorem ck5_4250 : bl5 4250 = true := by decide +kernel
theorem ck5_4251 : bl5 4251 = true := by decide +kernel
theorem ck5_4252 : bl5 4252 = true := by decide +kernel
theorem ck5_4253 : bl5 4253 = true := by decide +kernel
theorem ck5_4254 : bl5 4254 = true := by decide +kernel
theorem ck5_4255 : bl5 4255 = true := by decide +kernel
theorem ck5_4256 : bl5 4256 = true := by decide +kernel
theorem ck5_4257 : bl5 4257 = true := by decide +kernel
theorem ck5_4258 : bl5 4258 = true := by decide +kernel
theorem ck5_4259 : bl5 4259 = true := by decide +kernel
theorem ck5_4260 : bl5 4260 = true := by decide +kernel
theorem ck5_4261 : bl5 4261 = true := by decide +kernel
theorem ck5_4262 : bl5 4262 = true := by decide +kernel
theorem ck5_4263 : bl5 4263 = true := by decide +kernel
theorem ck5_4264 : bl5 4264 = true := by decide +kernel
theorem ck5_4265 : bl5 4265 = true := by decide +kernel
theorem ck5_4266 : bl5 4266 = true := by decide +kernel
theorem ck5_4267 : bl5 4267 = true := by decide +kernel
theorem ck5_4268 : bl5 4268 = true := by decide +kernel
theorem ck5_4269 : bl5 4269 = true := by decide +kernel
theorem ck5_4270 : bl5 4270 = true := by decide +kernel
theorem ck5_4271 : bl5 4271 = true := by decide +kernel
theorem ck5_4272 : bl5 4272 = true := by decide +kernel
theorem ck5_4273 : bl5 4273 = true := by decide +kernel
theorem ck5_4274 : bl5 4274 = true := by decide +kernel
theorem ck5_4275 : bl5 4275 = true := by decide +kernel
theorem ck5_4276 : bl5 4276 = true := by decide +kernel
theorem ck5_4277 : bl5 4277 = true := by decide +kernel
theorem ck5_4278 : bl5 4278 = true := by decide +kernel
theorem ck5_4279 : bl5 4279 = true := by decide +kernel
theorem ck5_4280 : bl5 4280 = true := by decide +kernel
theorem ck5_4281 : bl5 4281 = true := by decide +kernel
theorem ck5_4282 : bl5 4282 = true := by decide +kernel
theorem ck5_4283 : bl5 4283 = true := by decide +kernel
theorem ck5_4284 : bl5 4284 = true := by decide +kernel
theorem ck5_4285 : bl5 4285 = true := by decide +kernel
theorem ck5_4286 : bl5 4286 = true := by decide +kernel
theorem ck5_4287 : bl5 4287 = true := by decide +kernel
theorem ck5_4288 : bl5 4288 = true := by decide +kernel
theorem ck5_4289 : bl5 4289 = true := by decide +kernel
theorem ck5_4290 : bl5 4290 = true := by decide +kernel
theorem ck5_4291 : bl5 4291 = true := by decide +kernel
theorem ck5_4292 : bl5 4292 = true := by decide +kernel
theorem ck5_4293 : bl5 4293 = true := by decide +kernel
theorem ck5_4294 : bl5 4294 = true := by decide +kernel
theorem ck5_4295 : bl5 4295 = true := by decide +kernel
theorem ck5_4296 : bl5 4296 = true := by decide +kernel
theorem ck5_4297 : bl5 4297 = true := by decide +kernel
theorem ck5_4298 : bl5 4298 = true := by decide +kernel
theorem ck5_4299 : bl5 4299 = true := by decide +kernel
theorem ck5_4300 : bl5 4300 = true := by decide +kernel
theorem ck5_4301 : bl5 4301 = true := by decide +kernel
theorem ck5_4302 : bl5 4302 = true := by decide +kernel
theorem ck5_4303 : bl5 4303 = true := by decide +kernel
theorem ck5_4304 : bl5 4304 = true := by decide +kernel
theorem ck5_4305 : bl5 4305 = true := by decide +kernel
theorem ck5_4306 : bl5 4306 = true := by decide +kernel
theorem ck5_4307 : bl5 4307 = true := by decide +kernel
theorem ck5_4308 : bl5 4308 = true := by decide +kernel
theorem ck5_4309 : bl5 4309 = true := by decide +kernel
theorem ck5_4310 : bl5 4310 = true := by decide +kernel
theorem ck5_4311 : bl5 4311 = true := by decide +kernel
theorem ck5_4312 : bl5 4312 = true := by decide +kernel
theorem ck5_4313 : bl5 4313 = true := by decide +kernel
theorem ck5_4314 : bl5 4314 = true := by decide +kernel
theorem ck5_4315 : bl5 4315 = true := by decide +kernel
theorem ck5_4316 : bl5 4316 = true := by decide +kernel
theorem ck5_4317 : bl5 4317 = true := by decide +kernel
theorem ck5_4318 : bl5 4318 = true := by decide +kernel
theorem ck5_4319 : bl5 4319 = true := by decide +kernel
theorem ck5_4320 : bl5 4320 = true := by decide +kernel
theorem ck5_4321 : bl5 4321 = true := by decide +kernel
theorem ck5_4322 : bl5 4322 = true := by decide +kernel
theorem ck5_4323 : bl5 4323 = true := by decide +kernel
theorem ck5_4324 : bl5 4324 = true := by decide +kernel
theorem ck5_4325 : bl5 4325 = true := by decide +kernel
theorem ck5_4326 : bl5 4326 = true := by decide +kernel
theorem ck5_4327 : bl5 4327 = true := by decide +kernel
theorem ck5_4328 : bl5 4328 = true := by decide +kernel
theorem ck5_4329 : bl5 4329 = true := by decide +kernel
theorem ck5_4330 : bl5 4330 = true := by decide +kernel
theorem ck5_4331 : bl5 4331 = true := by decide +kernel
theorem ck5_4332 : bl5 4332 = true := by decide +kernel
theorem ck5_4333 : bl5 4333 = true := by decide +kernel
theorem ck5_4334 : bl5 4334 = true := by decide +kernel
theorem ck5_4335 : bl5 4335 = true := by decide +kernel
theorem ck5_4336 : bl5 4336 = true := by decide +kernel
theorem ck5_4337 : bl5 4337 = true := by decide +kernel
theorem ck5_4338 : bl5 4338 = true := by decide +kernel
theorem ck5_4339 : bl5 4339 = true := by decide +kernel
theorem ck5_4340 : bl5 4340 = true := by decide +kernel
theorem ck5_4341 : bl5 4341 = true := by decide +kernel
theorem ck5_4342 : bl5 4342 = true := by decide +kernel
theorem ck5_4343 : bl5 4343 = true := by decide +kernel
theorem ck5_4344 : bl5 4344 = true := by decide +kernel
theorem ck5_4345 : bl5 4345 = true := by decide +kernel
theorem ck5_4346 : bl5 4346 = true := by decide +kernel
theorem ck5_4347 : bl5 4347 = true := by decide +kernel
theorem ck5_4348 : bl5 4348 = true := by decide +kernel
theorem ck5_4349 : bl5 4349 = true := by decide +kernel
theorem ck5_4350 : bl5 4350 = true := by decide +kernel
theorem ck5_4351 : bl5 4351 = true := by decide +kernel
theorem ck5_4352 : bl5 4352 = true := by decide +kernel
theorem ck5_4353 : bl5 4353 = true := by decide +kernel
theorem ck5_4354 : bl5 4354 = true := by decide +kernel
theorem ck5_4355 : bl5 4355 = true := by decide +kernel
theorem ck5_4356 : bl5 4356 = true := by decide +kernel
theorem ck5_4357 : bl5 4357 = true := by decide +kernel
theorem ck5_4358 : bl5 4358 = true := by decide +kernel
theorem ck5_4359 : bl5 4359 = true := by decide +kernel
theorem ck5_4360 : bl5 4360 = true := by decide +kernel
theorem ck5_4361 : bl5 4361 = true := by decide +kernel
theorem ck5_4362 : bl5 4362 = true := by decide +kernel
theorem ck5_4363 : bl5 4363 = true := by decide +kernel
theorem ck5_4364 : bl5 4364 = true := by decide +kernel
theorem ck5_4365 : bl5 4365 = true := by decide +kernel
theorem ck5_4366 : bl5 4366 = true := by decide +kernel
theorem ck5_4367 : bl5 4367 = true := by decide +kernel
theorem ck5_4368 : bl5 4368 = true := by decide +kernel
theorem ck5_4369 : bl5 4369 = true := by decide +kernel
theorem ck5_4370 : bl5 4370 = true := by decide +kernel
theorem ck5_4371 : bl5 4371 = true := by decide +kernel
theorem ck5_4372 : bl5 4372 = true := by decide +kernel
theorem ck5_4373 : bl5 4373 = true := by decide +kernel
theorem ck5_4374 : bl5 4374 = true := by decide +kernel
theorem ck5_4375 : bl5 4375 = true := by decide +kernel
theorem ck5_4376 : bl5 4376 = true := by decide +kernel
theorem ck5_4377 : bl5 4377 = true := by decide +kernel
theorem ck5_4378 : bl5 4378 = true := by decide +kernel
theorem ck5_4379 : bl5 4379 = true := by decide +kernel
theorem ck5_4380 : bl5 4380 = true := by decide +kernel
theorem ck5_4381 : bl5 4381 = true := by decide +kernel
theorem ck5_4382 : bl5 4382 = true := by decide +kernel
theorem ck5_4383 : bl5 4383 = true := by decide +kernel
theorem ck5_4384 : bl5 4384 = true := by decide +kernel
theorem ck5_4385 : bl5 4385 = true := by decide +kernel
theorem ck5_4386 : bl5 4386 = true := by decide +kernel
theorem ck5_4387 : bl5 4387 = true := by decide +kernel
theorem ck5_4388 : bl5 4388 = true := by decide +kernel
theorem ck5_4389 : bl5 4389 = true := by decide +kernel
theorem ck5_4390 : bl5 4390 = true := by decide +kernel
theorem ck5_4391 : bl5 4391 = true := by decide +kernel
theorem ck5_4392 : bl5 4392 = true := by decide +kernel
theorem ck5_4393 : bl5 4393 = true := by decide +kernel
theorem ck5_4394 : bl5 4394 = true := by decide +kernel
theorem ck5_4395 : bl5 4395 = true := by decide +kernel
theorem ck5_4396 : bl5 4396 = true := by decide +kernel
theorem ck5_4397 : bl5 4397 = true := by decide +kernel
theorem ck5_4398 : bl5 4398 = true := by decide +kernel
theorem ck5_4399 : bl5 4399 = true := by decide +kernel
theorem ck5_4400 : bl5 4400 = true := by decide +kernel
theorem ck5_4401 : bl5 4401 = true := by decide +kernel
theorem ck5_4402 : bl5 4402 = true := by decide +kernel
theorem ck5_4403 : bl5 4403 = true := by decide +kernel
theorem ck5_4404 : bl5 4404 = true := by decide +kernel
theorem ck5_4405 : bl5 4405 = true := by decide +kernel
theorem ck5_4406 : bl5 4406 = true := by decide +kernel
theorem ck5_4407 : bl5 4407 = true := by decide +kernel
theorem ck5_4408 : bl5 4408 = true := by decide +kernel
theorem ck5_4409 : bl5 4409 = true := by decide +kernel
theorem ck5_4410 : bl5 4410 = true := by decide +kernel
theorem ck5_4411 : bl5 4411 = true := by decide +kernel
theorem ck5_4412 : bl5 4412 = true := by decide +kernel
theorem ck5_4413 : bl5 4413 = true := by decide +kernel
theorem ck5_4414 : bl5 4414 = true := by decide +kernel
theorem ck5_4415 : bl5 4415 = true := by decide +kernel
theorem ck5_4416 : bl5 4416 = true := by decide +kernel
theorem ck5_4417 : bl5 4417 = true := by decide +kernel
theorem ck5_4418 : bl5 4418 = true := by decide +kernel
theorem ck5_4419 : bl5 4419 = true := by decide +kernel
theorem ck5_4420 : bl5 4420 = true := by decide +kernel
theorem ck5_4421 : bl5 4421 = true := by decide +kernel
theorem ck5_4422 : bl5 4422 = true := by decide +kernel
theorem ck5_4423 : bl5 4423 = true := by decide +kernel
theorem ck5_4424 : bl5 4424 = true := by decide +kernel
theorem ck5_4425 : bl5 4425 = true := by decide +kernel
theorem ck5_4426 : bl5 4426 = true := by decide +kernel
theorem ck5_4427 : bl5 4427 = true := by decide +kernel
theorem ck5_4428 : bl5 4428 = true := by decide +kernel
theorem ck5_4429 : bl5 4429 = true := by decide +kernel
theorem ck5_4430 : bl5 4430 = true := by decide +kernel
theorem ck5_4431 : bl5 4431 = true := by decide +kernel
theorem ck5_4432 : bl5 4432 = true := by decide +kernel
theorem ck5_4433 : bl5 4433 = true := by decide +kernel
theorem ck5_4434 : bl5 4434 = true := by decide +kernel
theorem ck5_4435 : bl5 4435 = true := by decide +kernel
theorem ck5_4436 : bl5 4436 = true := by decide +kernel
theorem ck5_4437 : bl5 4437 = true := by decide +kernel
theorem ck5_4438 : bl5 4438 = true := by decide +kernel
theorem ck5_4439 : bl5 4439 = true := by decide +kernel
theorem ck5_4440 : bl5 4440 = true := by decide +kernel
theorem ck5_4441 : bl5 4441 = true := by decide +kernel
theorem ck5_4442 : bl5 4442 = true := by decide +kernel
theorem ck5_4443 : bl5 4443 = true := by decide +kernel
theorem ck5_4444 : bl5 4444 = true := by decide +kernel
theorem ck5_4445 : bl5 4445 = true := by decide +kernel
theorem ck5_4446 : bl5 4446 = true := by decide +kernel
theorem ck5_4447 : bl5 4447 = true := by decide +kernel
theorem ck5_4448 : bl5 4448 = true := by decide +kernel
theorem ck5_4449 : bl5 4449 = true := by decide +kernel
theorem ck5_4450 : bl5 4450 = true := by decide +kernel
theorem ck5_4451 : bl5 4451 = true := by decide +kernel
theorem ck5_4452 : bl5 4452 = true := by decide +kernel
theorem ck5_4453 : bl5 4453 = true := by decide +kernel
theorem ck5_4454 : bl5 4454 = true := by decide +kernel
theorem ck5_4455 : bl5 4455 = true := by decide +kernel
theorem ck5_4456 : bl5 4456 = true := by decide +kernel
theorem ck5_4457 : bl5 4457 = true := by decide +kernel
theorem ck5_4458 : bl5 4458 = true := by decide +kernel
theorem ck5_4459 : bl5 4459 = true := by decide +kernel
theorem ck5_4460 : bl5 4460 = true := by decide +kernel
theorem ck5_4461 : bl5 4461 = true := by decide +kernel
theorem ck5_4462 : bl5 4462 = true := by decide +kernel
theorem ck5_4463 : bl5 4463 = true := by decide +kernel
theorem ck5_4464 : bl5 4464 = true := by decide +kernel
theorem ck5_4465 : bl5 4465 = true := by decide +kernel
theorem ck5_4466 : bl5 4466 = true := by decide +kernel
theorem ck5_4467 : bl5 4467 = true := by decide +kernel
theorem ck5_4468 : bl5 4468 = true := by decide +kernel
theorem ck5_4469 : bl5 4469 = true := by decide +kernel
theorem ck5_4470 : bl5 4470 = true := by decide +kernel
theorem ck5_4471 : bl5 4471 = true := by decide +kernel
theorem ck5_4472 : bl5 4472 = true := by decide +kernel
theorem ck5_4473 : bl5 4473 = true := by decide +kernel
theorem ck5_4474 : bl5 4474 = true := by decide +kernel
theorem ck5_4475 : bl5 4475 = true := by decide +kernel
theorem ck5_4476 : bl5 4476 = true := by decide +kernel
theorem ck5_4477 : bl5 4477 = true := by decide +kernel
theorem ck5_4478 : bl5 4478 = true := by decide +kernel
theorem ck5_4479 : bl5 4479 = true := by decide +kernel
theorem ck5_4480 : bl5 4480 = true := by decide +kernel
theorem ck5_4481 : bl5 4481 = true := by decide +kernel
theorem ck5_4482 : bl5 4482 = true := by decide +kernel
theorem ck5_4483 : bl5 4483 = true := by decide +kernel
theorem ck5_4484 : bl5 4484 = true := by decide +kernel
theorem ck5_4485 : bl5 4485 = true := by decide +kernel
theorem ck5_4486 : bl5 4486 = true := by decide +kernel
theorem ck5_4487 : bl5 4487 = true := by decide +kernel
theorem ck5_4488 : bl5 4488 = true := by decide +kernel
theorem ck5_4489 : bl5 4489 = true := by decide +kernel
theorem ck5_4490 : bl5 4490 = true := by decide +kernel
theorem ck5_4491 : bl5 4491 = true := by decide +kernel
theorem ck5_4492 : bl5 4492 = true := by decide +kernel
theorem ck5_4493 : bl5 4493 = true := by decide +kernel
theorem ck5_4494 : bl5 4494 = true := by decide +kernel
theorem ck5_4495 : bl5 4495 = true := by decide +kernel
theorem ck5_4496 : bl5 4496 = true := by decide +kernel
theorem ck5_4497 : bl5 4497 = true := by decide +kernel
theorem ck5_4498 : bl5 4498 = true := by decide +kernel
theorem ck5_4499 : bl5 4499 = true := by decide +kernel
theorem ck5_4500 : bl5 4500 = true := by decide +kernel
theorem ck5_4501 : bl5 4501 = true := by decide +kernel
theorem ck5_4502 : bl5 4502 = true := by decide +kernel
theorem ck5_4503 : bl5 4503 = true := by decide +kernel
theorem ck5_4504 : bl5 4504 = true := by decide +kernel
theorem ck5_4505 : bl5 4505 = true := by decide +kernel
theorem ck5_4506 : bl5 4506 = true := by decide +kernel
theorem ck5_4507 : bl5 4507 = true := by decide +kernel
theorem ck5_4508 : bl5 4508 = true := by decide +kernel
theorem ck5_4509 : bl5 4509 = true := by decide +kernel
theorem ck5_4510 : bl5 4510 = true := by decide +kernel
theorem ck5_4511 : bl5 4511 = true := by decide +kernel
theorem ck5_4512 : bl5 4512 = true := by decide +kernel
theorem ck5_4513 : bl5 4513 = true := by decide +kernel
theorem ck5_4514 : bl5 4514 = true := by decide +kernel
theorem ck5_4515 : bl5 4515 = true := by decide +kernel
theorem ck5_4516 : bl5 4516 = true := by decide +kernel
theorem ck5_4517 : bl5 4517 = true := by decide +kernel
theorem ck5_4518 : bl5 4518 = true := by decide +kernel
theorem ck5_4519 : bl5 4519 = true := by decide +kernel
theorem ck5_4520 : bl5 4520 = true := by decide +kernel
theorem ck5_4521 : bl5 4521 = true := by decide +kernel
theorem ck5_4522 : bl5 4522 = true := by decide +kernel
theorem ck5_4523 : bl5 4523 = true := by decide +kernel
theorem ck5_4524 : bl5 4524 = true := by decide +kernel
theorem ck5_4525 : bl5 4525 = true := by decide +kernel
theorem ck5_4526 : bl5 4526 = true := by decide +kernel
theorem ck5_4527 : bl5 4527 = true := by decide +kernel
theorem ck5_4528 : bl5 4528 = true := by decide +kernel
theorem ck5_4529 : bl5 4529 = true := by decide +kernel
theorem ck5_4530 : bl5 4530 = true := by decide +kernel
theorem ck5_4531 : bl5 4531 = true := by decide +kernel
theorem ck5_4532 : bl5 4532 = true := by decide +kernel
theorem ck5_4533 : bl5 4533 = true := by decide +kernel
theorem ck5_4534 : bl5 4534 = true := by decide +kernel
theorem ck5_4535 : bl5 4535 = true := by decide +kernel
theorem ck5_4536 : bl5 4536 = true := by decide +kernel
theorem ck5_4537 : bl5 4537 = true := by decide +kernel
theorem ck5_4538 : bl5 4538 = true := by decide +kernel
theorem ck5_4539 : bl5 4539 = true := by decide +kernel
theorem ck5_4540 : bl5 4540 = true := by decide +kernel
theorem ck5_4541 : bl5 4541 = true := by decide +kernel
theorem ck5_4542 : bl5 4542 = true := by decide +kernel
theorem ck5_4543 : bl5 4543 = true := by decide +kernel
theorem ck5_4544 : bl5 4544 = true := by decide +kernel
theorem ck5_4545 : bl5 4545 = true := by decide +kernel
theorem ck5_4546 : bl5 4546 = true := by decide +kernel
theorem ck5_4547 : bl5 4547 = true := by decide +kernel
theorem ck5_4548 : bl5 4548 = true := by decide +kernel
theorem ck5_4549 : bl5 4549 = true := by decide +kernel
theorem ck5_4550 : bl5 4550 = true := by decide +kernel
theorem ck5_4551 : bl5 4551 = true := by decide +kernel
theorem ck5_4552 : bl5 4552 = true := by decide +kernel
theorem ck5_4553 : bl5 4553 = true := by decide +kernel
theorem ck5_4554 : bl5 4554 = true := by decide +kernel
theorem ck5_4555 : bl5 4555 = true := by decide +kernel
theorem ck5_4556 : bl5 4556 = true := by decide +kernel
theorem ck5_4557 : bl5 4557 = true := by decide +kernel
theorem ck5_4558 : bl5 4558 = true := by decide +kernel
theorem ck5_4559 : bl5 4559 = true := by decide +kernel
theorem ck5_4560 : bl5 4560 = true := by decide +kernel
theorem ck5_4561 : bl5 4561 = true := by decide +kernel
theorem ck5_4562 : bl5 4562 = true := by decide +kernel
theorem ck5_4563 : bl5 4563 = true := by decide +kernel
theorem ck5_4564 : bl5 4564 = true := by decide +kernel
theorem ck5_4565 : bl5 4565 = true := by decide +kernel
theorem ck5_4566 : bl5 4566 = true := by decide +kernel
theorem ck5_4567 : bl5 4567 = true := by decide +kernel
theorem ck5_4568 : bl5 4568 = true := by decide +kernel
theorem ck5_4569 : bl5 4569 = true := by decide +kernel
theorem ck5_4570 : bl5 4570 = true := by decide +kernel
theorem ck5_4571 : bl5 4571 = true := by decide +kernel
theorem ck5_4572 : bl5 4572 = true := by decide +kernel
theorem ck5_4573 : bl5 4573 = true := by decide +kernel
theorem ck5_4574 : bl5 4574 = true := by decide +kernel
theorem ck5_4575 : bl5 4575 = true := by decide +kernel
theorem ck5_4576 : bl5 4576 = true := by decide +kernel
theorem ck5_4577 : bl5 4577 = true := by decide +kernel
theorem ck5_4578 : bl5 4578 = true := by decide +kernel
theorem ck5_4579 : bl5 4579 = true := by decide +kernel
theorem ck5_4580 : bl5 4580 = true := by decide +kernel
theorem ck5_4581 : bl5 4581 = true := by decide +kernel
theorem ck5_4582 : bl5 4582 = true := by decide +kernel
theorem ck5_4583 : bl5 4583 = true := by decide +kernel
theorem ck5_4584 : bl5 4584 = true := by decide +kernel
theorem ck5_4585 : bl5 4585 = true := by decide +kernel
theorem ck5_4586 : bl5 4586 = true := by decide +kernel
theorem ck5_4587 : bl5 4587 = true := by decide +kernel
theorem ck5_4588 : bl5 4588 = true := by decide +kernel
theorem ck5_4589 : bl5 4589 = true := by decide +kernel
theorem ck5_4590 : bl5 4590 = true := by decide +kernel
theorem ck5_4591 : bl5 4591 = true := by decide +kernel
theorem ck5_4592 : bl5 4592 = true := by decide +kernel
theorem ck5_4593 : bl5 4593 = true := by decide +kernel
theorem ck5_4594 : bl5 4594 = true := by decide +kernel
theorem ck5_4595 : bl5 4595 = true := by decide +kernel
theorem ck5_4596 : bl5 4596 = true := by decide +kernel
theorem ck5_4597 : bl5 4597 = true := by decide +kernel
theorem ck5_4598 : bl5 4598 = true := by decide +kernel
theorem ck5_4599 : bl5 4599 = true := by decide +kernel
theorem ck5_4600 : bl5 4600 = true := by decide +kernel
theorem ck5_4601 : bl5 4601 = true := by decide +kernel
theorem ck5_4602 : bl5 4602 = true := by decide +kernel
theorem ck5_4603 : bl5 4603 = true := by decide +kernel
theorem ck5_4604 : bl5 4604 = true := by decide +kernel
theorem ck5_4605 : bl5 4605 = true := by decide +kernel
theorem ck5_4606 : bl5 4606 = true := by decide +kernel
theorem ck5_4607 : bl5 4607 = true := by decide +kernel
theorem ck5_4608 : bl5 4608 = true := by decide +kernel
theorem ck5_4609 : bl5 4609 = true := by decide +kernel
theorem ck5_4610 : bl5 4610 = true := by decide +kernel
theorem ck5_4611 : bl5 4611 = true := by decide +kernel
theorem ck5_4612 : bl5 4612 = true := by decide +kernel
theorem ck5_4613 : bl5 4613 = true := by decide +kernel
theorem ck5_4614 : bl5 4614 = true := by decide +kernel
theorem ck5_4615 : bl5 4615 = true := by decide +kernel
theorem ck5_4616 : bl5 4616 = true := by decide +kernel
theorem ck5_4617 : bl5 4617 = true := by decide +kernel
theorem ck5_4618 : bl5 4618 = true := by decide +kernel
theorem ck5_4619 : bl5 4619 = true := by decide +kernel
theorem ck5_4620 : bl5 4620 = true := by decide +kernel
theorem ck5_4621 : bl5 4621 = true := by decide +kernel
theorem ck5_4622 : bl5 4622 = true := by decide +kernel
theorem ck5_4623 : bl5 4623 = true := by decide +kernel
theorem ck5_4624 : bl5 4624 = true := by decide +kernel
theorem ck5_4625 : bl5 4625 = true := by decide +kernel
theorem ck5_4626 : bl5 4626 = true := by decide +kernel
theorem ck5_4627 : bl5 4627 = true := by decide +kernel
theorem ck5_4628 : bl5 4628 = true := by decide +kernel
theorem ck5_4629 : bl5 4629 = true := by decide +kernel
theorem ck5_4630 : bl5 4630 = true := by decide +kernel
theorem ck5_4631 : bl5 4631 = true := by decide +kernel
theorem ck5_4632 : bl5 4632 = true := by decide +kernel
theorem ck5_4633 : bl5 4633 = true := by decide +kernel
theorem ck5_4634 : bl5 4634 = true := by decide +kernel
theorem ck5_4635 : bl5 4635 = true := by decide +kernel
theorem ck5_4636 : bl5 4636 = true := by decide +kernel
theorem ck5_4637 : bl5 4637 = true := by decide +kernel
theorem ck5_4638 : bl5 4638 = true := by decide +kernel
theorem ck5_4639 : bl5 4639 = true := by decide +kernel
theorem ck5_4640 : bl5 4640 = true := by decide +kernel
theorem ck5_4641 : bl5 4641 = true := by decide +kernel
theorem ck5_4642 : bl5 4642 = true := by decide +kernel
theorem ck5_4643 : bl5 4643 = true := by decide +kernel
theorem ck5_4644 : bl5 4644 = true := by decide +kernel
theorem ck5_4645 : bl5 4645 = true := by decide +kernel
theorem ck5_4646 : bl5 4646 = true := by decide +kernel
theorem ck5_4647 : bl5 4647 = true := by decide +kernel
theorem ck5_4648 : bl5 4648 = true := by decide +kernel
theorem ck5_4649 : bl5 4649 = true := by decide +kernel
theorem ck5_4650 : bl5 4650 = true := by decide +kernel
theorem ck5_4651 : bl5 4651 = true := by decide +kernel
theorem ck5_4652 : bl5 4652 = true := by decide +kernel
theorem ck5_4653 : bl5 4653 = true := by decide +kernel
theorem ck5_4654 : bl5 4654 = true := by decide +kernel
theorem ck5_4655 : bl5 4655 = true := by decide +kernel
theorem ck5_4656 : bl5 4656 = true := by decide +kernel
theorem ck5_4657 : bl5 4657 = true := by decide +kernel
theorem ck5_4658 : bl5 4658 = true := by decide +kernel
theorem ck5_4659 : bl5 4659 = true := by decide +kernel
theorem ck5_4660 : bl5 4660 = true := by decide +kernel
theorem ck5_4661 : bl5 4661 = true := by decide +kernel
theorem ck5_4662 : bl5 4662 = true := by decide +kernel
theorem ck5_4663 : bl5 4663 = true := by decide +kernel
theorem ck5_4664 : bl5 4664 = true := by decide +kernel
theorem ck5_4665 : bl5 4665 = true := by decide +kernel
theorem ck5_4666 : bl5 4666 = true := by decide +kernel
theorem ck5_4667 : bl5 4667 = true := by decide +kernel
theorem ck5_4668 : bl5 4668 = true := by decide +kernel
theorem ck5_4669 : bl5 4669 = true := by decide +kernel
theorem ck5_4670 : bl5 4670 = true := by decide +kernel
theorem ck5_4671 : bl5 4671 = true := by decide +kernel
theorem ck5_4672 : bl5 4672 = true := by decide +kernel
theorem ck5_4673 : bl5 4673 = true := by decide +kernel
theorem ck5_4674 : bl5 4674 = true := by decide +kernel
theorem ck5_4675 : bl5 4675 = true := by decide +kernel
theorem ck5_4676 : bl5 4676 = true := by decide +kernel
theorem ck5_4677 : bl5 4677 = true := by decide +kernel
theorem ck5_4678 : bl5 4678 = true := by decide +kernel
theorem ck5_4679 : bl5 4679 = true := by decide +kernel
theorem ck5_4680 : bl5 4680 = true := by decide +kernel
theorem ck5_4681 : bl5 4681 = true := by decide +kernel
theorem ck5_4682 : bl5 4682 = true := by decide +kernel
theorem ck5_4683 : bl5 4683 = true := by decide +kernel
theorem ck5_4684 : bl5 4684 = true := by decide +kernel
theorem ck5_4685 : bl5 4685 = true := by decide +kernel
theorem ck5_4686 : bl5 4686 = true := by decide +kernel
theorem ck5_4687 : bl5 4687 = true := by decide +kernel
theorem ck5_4688 : bl5 4688 = true := by decide +kernel
theorem ck5_4689 : bl5 4689 = true := by decide +kernel
theorem ck5_4690 : bl5 4690 = true := by decide +kernel
theorem ck5_4691 : bl5 4691 = true := by decide +kernel
theorem ck5_4692 : bl5 4692 = true := by decide +kernel
theorem ck5_4693 : bl5 4693 = true := by decide +kernel
theorem ck5_4694 : bl5 4694 = true := by decide +kernel
theorem ck5_4695 : bl5 4695 = true := by decide +kernel
theorem ck5_4696 : bl5 4696 = true := by decide +kernel
theorem ck5_4697 : bl5 4697 = true := by decide +kernel
theorem ck5_4698 : bl5 4698 = true := by decide +kernel
theorem ck5_4699 : bl5 4699 = true := by decide +kernel
theorem ck5_4700 : bl5 4700 = true := by decide +kernel
theorem ck5_4701 : bl5 4701 = true := by decide +kernel
theorem ck5_4702 : bl5 4702 = true := by decide +kernel
theorem ck5_4703 : bl5 4703 = true := by decide +kernel
theorem ck5_4704 : bl5 4704 = true := by decide +kernel
theorem ck5_4705 : bl5 4705 = true := by decide +kernel
theorem ck5_4706 : bl5 4706 = true := by decide +kernel
theorem ck5_4707 : bl5 4707 = true := by decide +kernel
theorem ck5_4708 : bl5 4708 = true := by decide +kernel
theorem ck5_4709 : bl5 4709 = true := by decide +kernel
theorem ck5_4710 : bl5 4710 = true := by decide +kernel
theorem ck5_4711 : bl5 4711 = true := by decide +kernel
theorem ck5_4712 : bl5 4712 = true := by decide +kernel
theorem ck5_4713 : bl5 4713 = true := by decide +kernel
theorem ck5_4714 : bl5 4714 = true := by decide +kernel
theorem ck5_4715 : bl5 4715 = true := by decide +kernel
theorem ck5_4716 : bl5 4716 = true := by decide +kernel
theorem ck5_4717 : bl5 4717 = true := by decide +kernel
theorem ck5_4718 : bl5 4718 = true := by decide +kernel
theorem ck5_4719 : bl5 4719 = true := by decide +kernel
theorem ck5_4720 : bl5 4720 = true := by decide +kernel
theorem ck5_4721 : bl5 4721 = true := by decide +kernel
theorem ck5_4722 : bl5 4722 = true := by decide +kernel
theorem ck5_4723 : bl5 4723 = true := by decide +kernel
theorem ck5_4724 : bl5 4724 = true := by decide +kernel
theorem ck5_4725 : bl5 4725 = true := by decide +kernel
theorem ck5_4726 : bl5 4726 = true := by decide +kernel
theorem ck5_4727 : bl5 4727 = true := by decide +kernel
theorem ck5_4728 : bl5 4728 = true := by decide +kernel
theorem ck5_4729 : bl5 4729 = true := by decide +kernel
theorem ck5_4730 : bl5 4730 = true := by decide +kernel
theorem ck5_4731 : bl5 4731 = true := by decide +kernel
theorem ck5_4732 : bl5 4732 = true := by decide +kernel
theorem ck5_4733 : bl5 4733 = true := by decide +kernel
theorem ck5_4734 : bl5 4734 = true := by decide +kernel
theorem ck5_4735 : bl5 4735 = true := by decide +kernel
theorem ck5_4736 : bl5 4736 = true := by decide +kernel
theorem ck5_4737 : bl5 4737 = true := by decide +kernel
theorem ck5_4738 : bl5 4738 = true := by decide +kernel
theorem ck5_4739 : bl5 4739 = true := by decide +kernel
theorem ck5_4740 : bl5 4740 = true := by decide +kernel
theorem ck5_4741 : bl5 4741 = true := by decide +kernel
theorem ck5_4742 : bl5 4742 = true := by decide +kernel
theorem ck5_4743 : bl5 4743 = true := by decide +kernel
theorem ck5_4744 : bl5 4744 = true := by decide +kernel
theorem ck5_4745 : bl5 4745 = true := by decide +kernel
theorem ck5_4746 : bl5 4746 = true := by decide +kernel
theorem ck5_4747 : bl5 4747 = true := by decide +kernel
theorem ck5_4748 : bl5 4748 = true := by decide +kernel
theorem ck5_4749 : bl5 4749 = true := by decide +kernel
theorem ck5_4750 : bl5 4750 = true := by decide +kernel
theorem ck5_4751 : bl5 4751 = true := by decide +kernel
theorem ck5_4752 : bl5 4752 = true := by decide +kernel
theorem ck5_4753 : bl5 4753 = true := by decide +kernel
theorem ck5_4754 : bl5 4754 = true := by decide +kernel
theorem ck5_4755 : bl5 4755 = true := by decide +kernel
theorem ck5_4756 : bl5 4756 = true := by decide +kernel
theorem ck5_4757 : bl5 4757 = true := by decide +kernel
theorem ck5_4758 : bl5 4758 = true := by decide +kernel
theorem ck5_4759 : bl5 4759 = true := by decide +kernel
theorem ck5_4760 : bl5 4760 = true := by decide +kernel
theorem ck5_4761 : bl5 4761 = true := by decide +kernel
theorem ck5_4762 : bl5 4762 = true := by decide +kernel
theorem ck5_4763 : bl5 4763 = true := by decide +kernel
theorem ck5_4764 : bl5 4764 = true := by decide +kernel
theorem ck5_4765 : bl5 4765 = true := by decide +kernel
theorem ck5_4766 : bl5 4766 = true := by decide +kernel
theorem ck5_4767 : bl5 4767 = true := by decide +kernel
theorem ck5_4768 : bl5 4768 = true := by decide +kernel
theorem ck5_4769 : bl5 4769 = true := by decide +kernel
theorem ck5_4770 : bl5 4770 = true := by decide +kernel
theorem ck5_4771 : bl5 4771 = true := by decide +kernel
theorem ck5_4772 : bl5 4772 = true := by decide +kernel
theorem ck5_4773 : bl5 4773 = true := by decide +kernel
theorem ck5_4774 : bl5 4774 = true := by decide +kernel
theorem ck5_4775 : bl5 4775 = true := by decide +kernel
theorem ck5_4776 : bl5 4776 = true := by decide +kernel
theorem ck5_4777 : bl5 4777 = true := by decide +kernel
theorem ck5_4778 : bl5 4778 = true := by decide +kernel
theorem ck5_4779 : bl5 4779 = true := by decide +kernel
theorem ck5_4780 : bl5 4780 = true := by decide +kernel
theorem ck5_4781 : bl5 4781 = true := by decide +kernel
theorem ck5_4782 : bl5 4782 = true := by decide +kernel
theorem ck5_4783 : bl5 4783 = true := by decide +kernel
theorem ck5_4784 : bl5 4784 = true := by decide +kernel
theorem ck5_4785 : bl5 4785 = true := by decide +kernel
theorem ck5_4786 : bl5 4786 = true := by decide +kernel
theorem ck5_4787 : bl5 4787 = true := by decide +kernel
theorem ck5_4788 : bl5 4788 = true := by decide +kernel
theorem ck5_4789 : bl5 4789 = true := by decide +kernel
theorem ck5_4790 : bl5 4790 = true := by decide +kernel
theorem ck5_4791 : bl5 4791 = true := by decide +kernel
theorem ck5_4792 : bl5 4792 = true := by decide +kernel
theorem ck5_4793 : bl5 4793 = true := by decide +kernel
theorem ck5_4794 : bl5 4794 = true := by decide +kernel
theorem ck5_4795 : bl5 4795 = true := by decide +kernel
theorem ck5_4796 : bl5 4796 = true := by decide +kernel
theorem ck5_4797 : bl5 4797 = true := by decide +kernel
theorem ck5_4798 : bl5 4798 = true := by decide +kernel
theorem ck5_4799 : bl5 4799 = true := by decide +kernel
theorem ck5_4800 : bl5 4800 = true := by decide +kernel
theorem ck5_4801 : bl5 4801 = true := by decide +kernel
theorem ck5_4802 : bl5 4802 = true := by decide +kernel
theorem ck5_4803 : bl5 4803 = true := by decide +kernel
theorem ck5_4804 : bl5 4804 = true := by decide +kernel
theorem ck5_4805 : bl5 4805 = true := by decide +kernel
theorem ck5_4806 : bl5 4806 = true := by decide +kernel
theorem ck5_4807 : bl5 4807 = true := by decide +kernel
theorem ck5_4808 : bl5 4808 = true := by decide +kernel
theorem ck5_4809 : bl5 4809 = true := by decide +kernel
theorem ck5_4810 : bl5 4810 = true := by decide +kernel
theorem ck5_4811 : bl5 4811 = true := by decide +kernel
theorem ck5_4812 : bl5 4812 = true := by decide +kernel
theorem ck5_4813 : bl5 4813 = true := by decide +kernel
theorem ck5_4814 : bl5 4814 = true := by decide +kernel
theorem ck5_4815 : bl5 4815 = true := by decide +kernel
theorem ck5_4816 : bl5 4816 = true := by decide +kernel
theorem ck5_4817 : bl5 4817 = true := by decide +kernel
theorem ck5_4818 : bl5 4818 = true := by decide +kernel
theorem ck5_4819 : bl5 4819 = true := by decide +kernel
theorem ck5_4820 : bl5 4820 = true := by decide +kernel
theorem ck5_4821 : bl5 4821 = true := by decide +kernel
theorem ck5_4822 : bl5 4822 = true := by decide +kernel
theorem ck5_4823 : bl5 4823 = true := by decide +kernel
theorem ck5_4824 : bl5 4824 = true := by decide +kernel
theorem ck5_4825 : bl5 4825 = true := by decide +kernel
theorem ck5_4826 : bl5 4826 = true := by decide +kernel
theorem ck5_4827 : bl5 4827 = true := by decide +kernel
theorem ck5_4828 : bl5 4828 = true := by decide +kernel
theorem ck5_4829 : bl5 4829 = true := by decide +kernel
theorem ck5_4830 : bl5 4830 = true := by decide +kernel
theorem ck5_4831 : bl5 4831 = true := by decide +kernel
theorem ck5_4832 : bl5 4832 = true := by decide +kernel
theorem ck5_4833 : bl5 4833 = true := by decide +kernel
theorem ck5_4834 : bl5 4834 = true := by decide +kernel
theorem ck5_4835 : bl5 4835 = true := by decide +kernel
theorem ck5_4836 : bl5 4836 = true := by decide +kernel
theorem ck5_4837 : bl5 4837 = true := by decide +kernel
theorem ck5_4838 : bl5 4838 = true := by decide +kernel
theorem ck5_4839 : bl5 4839 = true := by decide +kernel
theorem ck5_4840 : bl5 4840 = true := by decide +kernel
theorem ck5_4841 : bl5 4841 = true := by decide +kernel
theorem ck5_4842 : bl5 4842 = true := by decide +kernel
theorem ck5_4843 : bl5 4843 = true := by decide +kernel
theorem ck5_4844 : bl5 4844 = true := by decide +kernel
theorem ck5_4845 : bl5 4845 = true := by decide +kernel
theorem ck5_4846 : bl5 4846 = true := by decide +kernel
theorem ck5_4847 : bl5 4847 = true := by decide +kernel
theorem ck5_4848 : bl5 4848 = true := by decide +kernel
theorem ck5_4849 : bl5 4849 = true := by decide +kernel
theorem ck5_4850 : bl5 4850 = true := by decide +kernel
theorem ck5_4851 : bl5 4851 = true := by decide +kernel
theorem ck5_4852 : bl5 4852 = true := by decide +kernel
theorem ck5_4853 : bl5 4853 = true := by decide +kernel
theorem ck5_4854 : bl5 4854 = true := by decide +kernel
theorem ck5_4855 : bl5 4855 = true := by decide +kernel
theorem ck5_4856 : bl5 4856 = true := by decide +kernel
theorem ck5_4857 : bl5 4857 = true := by decide +kernel
theorem ck5_4858 : bl5 4858 = true := by decide +kernel
theorem ck5_4859 : bl5 4859 = true := by decide +kernel
theorem ck5_4860 : bl5 4860 = true := by decide +kernel
theorem ck5_4861 : bl5 4861 = true := by decide +kernel
theorem ck5_4862 : bl5 4862 = true := by decide +kernel
theorem ck5_4863 : bl5 4863 = true := by decide +kernel
theorem ck5_4864 : bl5 4864 = true := by decide +kernel
theorem ck5_4865 : bl5 4865 = true := by decide +kernel
theorem ck5_4866 : bl5 4866 = true := by decide +kernel
theorem ck5_4867 : bl5 4867 = true := by decide +kernel
theorem ck5_4868 : bl5 4868 = true := by decide +kernel
theorem ck5_4869 : bl5 4869 = true := by decide +kernel
theorem ck5_4870 : bl5 4870 = true := by decide +kernel
theorem ck5_4871 : bl5 4871 = true := by decide +kernel
theorem ck5_4872 : bl5 4872 = true := by decide +kernel
theorem ck5_4873 : bl5 4873 = true := by decide +kernel
theorem ck5_4874 : bl5 4874 = true := by decide +kernel
theorem ck5_4875 : bl5 4875 = true := by decide +kernel
theorem ck5_4876 : bl5 4876 = true := by decide +kernel
theorem ck5_4877 : bl5 4877 = true := by decide +kernel
theorem ck5_4878 : bl5 4878 = true := by decide +kernel
theorem ck5_4879 : bl5 4879 = true := by decide +kernel
theorem ck5_4880 : bl5 4880 = true := by decide +kernel
theorem ck5_4881 : bl5 4881 = true := by decide +kernel
theorem ck5_4882 : bl5 4882 = true := by decide +kernel
theorem ck5_4883 : bl5 4883 = true := by decide +kernel
theorem ck5_4884 : bl5 4884 = true := by decide +kernel
theorem ck5_4885 : bl5 4885 = true := by decide +kernel
theorem ck5_4886 : bl5 4886 = true := by decide +kernel
theorem ck5_4887 : bl5 4887 = true := by decide +kernel
theorem ck5_4888 : bl5 4888 = true := by decide +kernel
theorem ck5_4889 : bl5 4889 = true := by decide +kernel
theorem ck5_4890 : bl5 4890 = true := by decide +kernel
theorem ck5_4891 : bl5 4891 = true := by decide +kernel
theorem ck5_4892 : bl5 4892 = true := by decide +kernel
theorem ck5_4893 : bl5 4893 = true := by decide +kernel
theorem ck5_4894 : bl5 4894 = true := by decide +kernel
theorem ck5_4895 : bl5 4895 = true := by decide +kernel
theorem ck5_4896 : bl5 4896 = true := by decide +kernel
theorem ck5_4897 : bl5 4897 = true := by decide +kernel
theorem ck5_4898 : bl5 4898 = true := by decide +kernel
theorem ck5_4899 : bl5 4899 = true := by decide +kernel
theorem ck5_4900 : bl5 4900 = true := by decide +kernel
theorem ck5_4901 : bl5 4901 = true := by decide +kernel
theorem ck5_4902 : bl5 4902 = true := by decide +kernel
theorem ck5_4903 : bl5 4903 = true := by decide +kernel
theorem ck5_4904 : bl5 4904 = true := by decide +kernel
theorem ck5_4905 : bl5 4905 = true := by decide +kernel
theorem ck5_4906 : bl5 4906 = true := by decide +kernel
theorem ck5_4907 : bl5 4907 = true := by decide +kernel
theorem ck5_4908 : bl5 4908 = true := by decide +kernel
theorem ck5_4909 : bl5 4909 = true := by decide +kernel
theorem ck5_4910 : bl5 4910 = true := by decide +kernel
theorem ck5_4911 : bl5 4911 = true := by decide +kernel
theorem ck5_4912 : bl5 4912 = true := by decide +kernel
theorem ck5_4913 : bl5 4913 = true := by decide +kernel
theorem ck5_4914 : bl5 4914 = true := by decide +kernel
theorem ck5_4915 : bl5 4915 = true := by decide +kernel
theorem ck5_4916 : bl5 4916 = true := by decide +kernel
theorem ck5_4917 : bl5 4917 = true := by decide +kernel
theorem ck5_4918 : bl5 4918 = true := by decide +kernel
theorem ck5_4919 : bl5 4919 = true := by decide +kernel
theorem ck5_4920 : bl5 4920 = true := by decide +kernel
theorem ck5_4921 : bl5 4921 = true := by decide +kernel
theorem ck5_4922 : bl5 4922 = true := by decide +kernel
theorem ck5_4923 : bl5 4923 = true := by decide +kernel
theorem ck5_4924 : bl5 4924 = true := by decide +kernel
theorem ck5_4925 : bl5 4925 = true := by decide +kernel
theorem ck5_4926 : bl5 4926 = true := by decide +kernel
theorem ck5_4927 : bl5 4927 = true := by decide +kernel
theorem ck5_4928 : bl5 4928 = true := by decide +kernel
theorem ck5_4929 : bl5 4929 = true := by decide +kernel
theorem ck5_4930 : bl5 4930 = true := by decide +kernel
theorem ck5_4931 : bl5 4931 = true := by decide +kernel
theorem ck5_4932 : bl5 4932 = true := by decide +kernel
theorem ck5_4933 : bl5 4933 = true := by decide +kernel
theorem ck5_4934 : bl5 4934 = true := by decide +kernel
theorem ck5_4935 : bl5 4935 = true := by decide +kernel
theorem ck5_4936 : bl5 4936 = true := by decide +kernel
theorem ck5_4937 : bl5 4937 = true := by decide +kernel
theorem ck5_4938 : bl5 4938 = true := by decide +kernel
theorem ck5_4939 : bl5 4939 = true := by decide +kernel
theorem ck5_4940 : bl5 4940 = true := by decide +kernel
theorem ck5_4941 : bl5 4941 = true := by decide +kernel
theorem ck5_4942 : bl5 4942 = true := by decide +kernel
theorem ck5_4943 : bl5 4943 = true := by decide +kernel
theorem ck5_4944 : bl5 4944 = true := by decide +kernel
theorem ck5_4945 : bl5 4945 = true := by decide +kernel
theorem ck5_4946 : bl5 4946 = true := by decide +kernel
theorem ck5_4947 : bl5 4947 = true := by decide +kernel
theorem ck5_4948 : bl5 4948 = true := by decide +kernel
theorem ck5_4949 : bl5 4949 = true := by decide +kernel
theorem ck5_4950 : bl5 4950 = true := by decide +kernel
theorem ck5_4951 : bl5 4951 = true := by decide +kernel
theorem ck5_4952 : bl5 4952 = true := by decide +kernel
theorem ck5_4953 : bl5 4953 = true := by decide +kernel
theorem ck5_4954 : bl5 4954 = true := by decide +kernel
theorem ck5_4955 : bl5 4955 = true := by decide +kernel
theorem ck5_4956 : bl5 4956 = true := by decide +kernel
theorem ck5_4957 : bl5 4957 = true := by decide +kernel
theorem ck5_4958 : bl5 4958 = true := by decide +kernel
theorem ck5_4959 : bl5 4959 = true := by decide +kernel
theorem ck5_4960 : bl5 4960 = true := by decide +kernel
theorem ck5_4961 : bl5 4961 = true := by decide +kernel
theorem ck5_4962 : bl5 4962 = true := by decide +kernel
theorem ck5_4963 : bl5 4963 = true := by decide +kernel
theorem ck5_4964 : bl5 4964 = true := by decide +kernel
theorem ck5_4965 : bl5 4965 = true := by decide +kernel
theorem ck5_4966 : bl5 4966 = true := by decide +kernel
theorem ck5_4967 : bl5 4967 = true := by decide +kernel
theorem ck5_4968 : bl5 4968 = true := by decide +kernel
theorem ck5_4969 : bl5 4969 = true := by decide +kernel
theorem ck5_4970 : bl5 4970 = true := by decide +kernel
theorem ck5_4971 : bl5 4971 = true := by decide +kernel
theorem ck5_4972 : bl5 4972 = true := by decide +kernel
theorem ck5_4973 : bl5 4973 = true := by decide +kernel
theorem ck5_4974 : bl5 4974 = true := by decide +kernel
theorem ck5_4975 : bl5 4975 = true := by decide +kernel
theorem ck5_4976 : bl5 4976 = true := by decide +kernel
theorem ck5_4977 : bl5 4977 = true := by decide +kernel
theorem ck5_4978 : bl5 4978 = true := by decide +kernel
theorem ck5_4979 : bl5 4979 = true := by decide +kernel
theorem ck5_4980 : bl5 4980 = true := by decide +kernel
theorem ck5_4981 : bl5 4981 = true := by decide +kernel
theorem ck5_4982 : bl5 4982 = true := by decide +kernel
theorem ck5_4983 : bl5 4983 = true := by decide +kernel
theorem ck5_4984 : bl5 4984 = true := by decide +kernel
theorem ck5_4985 : bl5 4985 = true := by decide +kernel
theorem ck5_4986 : bl5 4986 = true := by decide +kernel
theorem ck5_4987 : bl5 4987 = true := by decide +kernel
theorem ck5_4988 : bl5 4988 = true := by decide +kernel
theorem ck5_4989 : bl5 4989 = true := by decide +kernel
theorem ck5_4990 : bl5 4990 = true := by decide +kernel
theorem ck5_4991 : bl5 4991 = true := by decide +kernel
theorem ck5_4992 : bl5 4992 = true := by decide +kernel
theorem ck5_4993 : bl5 4993 = true := by decide +kernel
theorem ck5_4994 : bl5 4994 = true := by decide +kernel
theorem ck5_4995 : bl5 4995 = true := by decide +kernel
theorem ck5_4996 : bl5 4996 = true := by decide +kernel
theorem ck5_4997 : bl5 4997 = true := by decide +kernel
theorem ck5_4998 : bl5 4998 = true := by decide +kernel
theorem ck5_4999 : bl5 4999 = true := by decide +kernel
theorem ck5_5000 : bl5 5000 = true := by decide +kernel
theorem ck5_5001 : bl5 5001 = true := by decide +kernel
theorem ck5_5002 : bl5 5002 = true := by decide +kernel
theorem ck5_5003 : bl5 5003 = true := by decide +kernel
theorem ck5_5004 : bl5 5004 = true := by decide +kernel
theorem ck5_5005 : bl5 5005 = true := by decide +kernel
theorem ck5_5006 : bl5 5006 = true := by decide +kernel
theorem ck5_5007 : bl5 5007 = true := by decide +kernel
theorem ck5_5008 : bl5 5008 = true := by decide +kernel
theorem ck5_5009 : bl5 5009 = true := by decide +kernel
theorem ck5_5010 : bl5 5010 = true := by decide +kernel
theorem ck5_5011 : bl5 5011 = true := by decide +kernel
theorem ck5_5012 : bl5 5012 = true := by decide +kernel
theorem ck5_5013 : bl5 5013 = true := by decide +kernel
theorem ck5_5014 : bl5 5014 = true := by decide +kernel
theorem ck5_5015 : bl5 5015 = true := by decide +kernel
theorem ck5_5016 : bl5 5016 = true := by decide +kernel
theorem ck5_5017 : bl5 5017 = true := by decide +kernel
theorem ck5_5018 : bl5 5018 = true := by decide +kernel
theorem ck5_5019 : bl5 5019 = true := by decide +kernel
theorem ck5_5020 : bl5 5020 = true := by decide +kernel
theorem ck5_5021 : bl5 5021 = true := by decide +kernel
theorem ck5_5022 : bl5 5022 = true := by decide +kernel
theorem ck5_5023 : bl5 5023 = true := by decide +kernel
theorem ck5_5024 : bl5 5024 = true := by decide +kernel
theorem ck5_5025 : bl5 5025 = true := by decide +kernel
theorem ck5_5026 : bl5 5026 = true := by decide +kernel
theorem ck5_5027 : bl5 5027 = true := by decide +kernel
theorem ck5_5028 : bl5 5028 = true := by decide +kernel
theorem ck5_5029 : bl5 5029 = true := by decide +kernel
theorem ck5_5030 : bl5 5030 = true := by decide +kernel
theorem ck5_5031 : bl5 5031 = true := by decide +kernel
theorem ck5_5032 : bl5 5032 = true := by decide +kernel
theorem ck5_5033 : bl5 5033 = true := by decide +kernel
theorem ck5_5034 : bl5 5034 = true := by decide +kernel
theorem ck5_5035 : bl5 5035 = true := by decide +kernel
theorem ck5_5036 : bl5 5036 = true := by decide +kernel
theorem ck5_5037 : bl5 5037 = true := by decide +kernel
theorem ck5_5038 : bl5 5038 = true := by decide +kernel
theorem ck5_5039 : bl5 5039 = true := by decide +kernel
theorem ck5_5040 : bl5 5040 = true := by decide +kernel
theorem ck5_5041 : bl5 5041 = true := by decide +kernel
theorem ck5_5042 : bl5 5042 = true := by decide +kernel
theorem ck5_5043 : bl5 5043 = true := by decide +kernel
theorem ck5_5044 : bl5 5044 = true := by decide +kernel
theorem ck5_5045 : bl5 5045 = true := by decide +kernel
theorem ck5_5046 : bl5 5046 = true := by decide +kernel
theorem ck5_5047 : bl5 5047 = true := by decide +kernel
theorem ck5_5048 : bl5 5048 = true := by decide +kernel
theorem ck5_5049 : bl5 5049 = true := by decide +kernel
theorem ck5_5050 : bl5 5050 = true := by decide +kernel
theorem ck5_5051 : bl5 5051 = true := by decide +kernel
theorem ck5_5052 : bl5 5052 = true := by decide +kernel
theorem ck5_5053 : bl5 5053 = true := by decide +kernel
theorem ck5_5054 : bl5 5054 = true := by decide +kernel
theorem ck5_5055 : bl5 5055 = true := by decide +kernel
theorem ck5_5056 : bl5 5056 = true := by decide +kernel
theorem ck5_5057 : bl5 5057 = true := by decide +kernel
theorem ck5_5058 : bl5 5058 = true := by decide +kernel
theorem ck5_5059 : bl5 5059 = true := by decide +kernel
theorem ck5_5060 : bl5 5060 = true := by decide +kernel
theorem ck5_5061 : bl5 5061 = true := by decide +kernel
theorem ck5_5062 : bl5 5062 = true := by decide +kernel
theorem ck5_5063 : bl5 5063 = true := by decide +kernel
theorem ck5_5064 : bl5 5064 = true := by decide +kernel
theorem ck5_5065 : bl5 5065 = true := by decide +kernel
theorem ck5_5066 : bl5 5066 = true := by decide +kernel
theorem ck5_5067 : bl5 5067 = true := by decide +kernel
theorem ck5_5068 : bl5 5068 = true := by decide +kernel
theorem ck5_5069 : bl5 5069 = true := by decide +kernel
theorem ck5_5070 : bl5 5070 = true := by decide +kernel
theorem ck5_5071 : bl5 5071 = true := by decide +kernel
theorem ck5_5072 : bl5 5072 = true := by decide +kernel
theorem ck5_5073 : bl5 5073 = true := by decide +kernel
theorem ck5_5074 : bl5 5074 = true := by decide +kernel
theorem ck5_5075 : bl5 5075 = true := by decide +kernel
theorem ck5_5076 : bl5 5076 = true := by decide +kernel
theorem ck5_5077 : bl5 5077 = true := by decide +kernel
theorem ck5_5078 : bl5 5078 = true := by decide +kernel
theorem ck5_5079 : bl5 5079 = true := by decide +kernel
theorem ck5_5080 : bl5 5080 = true := by decide +kernel
theorem ck5_5081 : bl5 5081 = true := by decide +kernel
theorem ck5_5082 : bl5 5082 = true := by decide +kernel
theorem ck5_5083 : bl5 5083 = true := by decide +kernel
theorem ck5_5084 : bl5 5084 = true := by decide +kernel
theorem ck5_5085 : bl5 5085 = true := by decide +kernel
theorem ck5_5086 : bl5 5086 = true := by decide +kernel
theorem ck5_5087 : bl5 5087 = true := by decide +kernel
theorem ck5_5088 : bl5 5088 = true := by decide +kernel
theorem ck5_5089 : bl5 5089 = true := by decide +kernel
theorem ck5_5090 : bl5 5090 = true := by decide +kernel
theorem ck5_5091 : bl5 5091 = true := by decide +kernel
theorem ck5_5092 : bl5 5092 = true := by decide +kernel
theorem ck5_5093 : bl5 5093 = true := by decide +kernel
theorem ck5_5094 : bl5 5094 = true := by decide +kernel
theorem ck5_5095 : bl5 5095 = true := by decide +kernel
theorem ck5_5096 : bl5 5096 = true := by decide +kernel
theorem ck5_5097 : bl5 5097 = true := by decide +kernel
theorem ck5_5098 : bl5 5098 = true := by decide +kernel
theorem ck5_5099 : bl5 5099 = true := by decide +kernel
theorem ck5_5100 : bl5 5100 = true := by decide +kernel
theorem ck5_5101 : bl5 5101 = true := by decide +kernel
theorem ck5_5102 : bl5 5102 = true := by decide +kernel
theorem ck5_5103 : bl5 5103 = true := by decide +kernel
theorem ck5_5104 : bl5 5104 = true := by decide +kernel
theorem ck5_5105 : bl5 5105 = true := by decide +kernel
theorem ck5_5106 : bl5 5106 = true := by decide +kernel
theorem ck5_5107 : bl5 5107 = true := by decide +kernel
theorem ck5_5108 : bl5 5108 = true := by decide +kernel
theorem ck5_5109 : bl5 5109 = true := by decide +kernel
theorem ck5_5110 : bl5 5110 = true := by decide +kernel
theorem ck5_5111 : bl5 5111 = true := by decide +kernel
theorem ck5_5112 : bl5 5112 = true := by decide +kernel
theorem ck5_5113 : bl5 5113 = true := by decide +kernel
theorem ck5_5114 : bl5 5114 = true := by decide +kernel
theorem ck5_5115 : bl5 5115 = true := by decide +kernel
theorem ck5_5116 : bl5 5116 = true := by decide +kernel
theorem ck5_5117 : bl5 5117 = true := by decide +kernel
theorem ck5_5118 : bl5 5118 = true := by decide +kernel
theorem ck5_5119 : bl5 5119 = true := by decide +kernel
theorem ck5_5120 : bl5 5120 = true := by decide +kernel
theorem ck5_5121 : bl5 5121 = true := by decide +kernel
theorem ck5_5122 : bl5 5122 = true := by decide +kernel
theorem ck5_5123 : bl5 5123 = true := by decide +kernel
theorem ck5_5124 : bl5 5124 = true := by decide +kernel
theorem ck5_5125 : bl5 5125 = true := by decide +kernel
theorem ck5_5126 : bl5 5126 = true := by decide +kernel
theorem ck5_5127 : bl5 5127 = true := by decide +kernel
theorem ck5_5128 : bl5 5128 = true := by decide +kernel
theorem ck5_5129 : bl5 5129 = true := by decide +kernel
theorem ck5_5130 : bl5 5130 = true := by decide +kernel
theorem ck5_5131 : bl5 5131 = true := by decide +kernel
theorem ck5_5132 : bl5 5132 = true := by decide +kernel
theorem ck5_5133 : bl5 5133 = true := by decide +kernel
theorem ck5_5134 : bl5 5134 = true := by decide +kernel
theorem ck5_5135 : bl5 5135 = true := by decide +kernel
theorem ck5_5136 : bl5 5136 = true := by decide +kernel
theorem ck5_5137 : bl5 5137 = true := by decide +kernel
theorem ck5_5138 : bl5 5138 = true := by decide +kernel
theorem ck5_5139 : bl5 5139 = true := by decide +kernel
theorem ck5_5140 : bl5 5140 = true := by decide +kernel
theorem ck5_5141 : bl5 5141 = true := by decide +kernel
theorem ck5_5142 : bl5 5142 = true := by decide +kernel
theorem ck5_5143 : bl5 5143 = true := by decide +kernel
theorem ck5_5144 : bl5 5144 = true := by decide +kernel
theorem ck5_5145 : bl5 5145 = true := by decide +kernel
theorem ck5_5146 : bl5 5146 = true := by decide +kernel
theorem ck5_5147 : bl5 5147 = true := by decide +kernel
theorem ck5_5148 : bl5 5148 = true := by decide +kernel
theorem ck5_5149 : bl5 5149 = true := by decide +kernel
theorem ck5_5150 : bl5 5150 = true := by decide +kernel
theorem ck5_5151 : bl5 5151 = true := by decide +kernel
theorem ck5_5152 : bl5 5152 = true := by decide +kernel
theorem ck5_5153 : bl5 5153 = true := by decide +kernel
theorem ck5_5154 : bl5 5154 = true := by decide +kernel
theorem ck5_5155 : bl5 5155 = true := by decide +kernel
theorem ck5_5156 : bl5 5156 = true := by decide +kernel
theorem ck5_5157 : bl5 5157 = true := by decide +kernel
theorem ck5_5158 : bl5 5158 = true := by decide +kernel
theorem ck5_5159 : bl5 5159 = true := by decide +kernel
theorem ck5_5160 : bl5 5160 = true := by decide +kernel
theorem ck5_5161 : bl5 5161 = true := by decide +kernel
theorem ck5_5162 : bl5 5162 = true := by decide +kernel
theorem ck5_5163 : bl5 5163 = true := by decide +kernel
theorem ck5_5164 : bl5 5164 = true := by decide +kernel
theorem ck5_5165 : bl5 5165 = true := by decide +kernel
theorem ck5_5166 : bl5 5166 = true := by decide +kernel
theorem ck5_5167 : bl5 5167 = true := by decide +kernel
theorem ck5_5168 : bl5 5168 = true := by decide +kernel
theorem ck5_5169 : bl5 5169 = true := by decide +kernel
theorem ck5_5170 : bl5 5170 = true := by decide +kernel
theorem ck5_5171 : bl5 5171 = true := by decide +kernel
theorem ck5_5172 : bl5 5172 = true := by decide +kernel
theorem ck5_5173 : bl5 5173 = true := by decide +kernel
theorem ck5_5174 : bl5 5174 = true := by decide +kernel
theorem ck5_5175 : bl5 5175 = true := by decide +kernel
theorem ck5_5176 : bl5 5176 = true := by decide +kernel
theorem ck5_5177 : bl5 5177 = true := by decide +kernel
theorem ck5_5178 : bl5 5178 = true := by decide +kernel
theorem ck5_5179 : bl5 5179 = true := by decide +kernel
theorem ck5_5180 : bl5 5180 = true := by decide +kernel
theorem ck5_5181 : bl5 5181 = true := by decide +kernel
theorem ck5_5182 : bl5 5182 = true := by decide +kernel
theorem ck5_5183 : bl5 5183 = true := by decide +kernel
theorem ck5_5184 : bl5 5184 = true := by decide +kernel
theorem ck5_5185 : bl5 5185 = true := by decide +kernel
theorem ck5_5186 : bl5 5186 = true := by decide +kernel
theorem ck5_5187 : bl5 5187 = true := by decide +kernel
theorem ck5_5188 : bl5 5188 = true := by decide +kernel
theorem ck5_5189 : bl5 5189 = true := by decide +kernel
theorem ck5_5190 : bl5 5190 = true := by decide +kernel
theorem ck5_5191 : bl5 5191 = true := by decide +kernel
theorem ck5_5192 : bl5 5192 = true := by decide +kernel
theorem ck5_5193 : bl5 5193 = true := by decide +kernel
theorem ck5_5194 : bl5 5194 = true := by decide +kernel
theorem ck5_5195 : bl5 5195 = true := by decide +kernel
theorem ck5_5196 : bl5 5196 = true := by decide +kernel
theorem ck5_5197 : bl5 5197 = true := by decide +kernel
theorem ck5_5198 : bl5 5198 = true := by decide +kernel
theorem ck5_5199 : bl5 5199 = true := by decide +kernel
theorem ck5_5200 : bl5 5200 = true := by decide +kernel
theorem ck5_5201 : bl5 5201 = true := by decide +kernel
theorem ck5_5202 : bl5 5202 = true := by decide +kernel
theorem ck5_5203 : bl5 5203 = true := by decide +kernel
theorem ck5_5204 : bl5 5204 = true := by decide +kernel
theorem ck5_5205 : bl5 5205 = true := by decide +kernel
theorem ck5_5206 : bl5 5206 = true := by decide +kernel
theorem ck5_5207 : bl5 5207 = true := by decide +kernel
theorem ck5_5208 : bl5 5208 = true := by decide +kernel
theorem ck5_5209 : bl5 5209 = true := by decide +kernel
theorem ck5_5210 : bl5 5210 = true := by decide +kernel
theorem ck5_5211 : bl5 5211 = true := by decide +kernel
theorem ck5_5212 : bl5 5212 = true := by decide +kernel
theorem ck5_5213 : bl5 5213 = true := by decide +kernel
theorem ck5_5214 : bl5 5214 = true := by decide +kernel
theorem ck5_5215 : bl5 5215 = true := by decide +kernel
theorem ck5_5216 : bl5 5216 = true := by decide +kernel
theorem ck5_5217 : bl5 5217 = true := by decide +kernel
theorem ck5_5218 : bl5 5218 = true := by decide +kernel
theorem ck5_5219 : bl5 5219 = true := by decide +kernel
theorem ck5_5220 : bl5 5220 = true := by decide +kernel
theorem ck5_5221 : bl5 5221 = true := by decide +kernel
theorem ck5_5222 : bl5 5222 = true := by decide +kernel
theorem ck5_5223 : bl5 5223 = true := by decide +kernel
theorem ck5_5224 : bl5 5224 = true := by decide +kernel
theorem ck5_5225 : bl5 5225 = true := by decide +kernel
theorem ck5_5226 : bl5 5226 = true := by decide +kernel
theorem ck5_5227 : bl5 5227 = true := by decide +kernel
theorem ck5_5228 : bl5 5228 = true := by decide +kernel
theorem ck5_5229 : bl5 5229 = true := by decide +kernel
theorem ck5_5230 : bl5 5230 = true := by decide +kernel
theorem ck5_5231 : bl5 5231 = true := by decide +kernel
theorem ck5_5232 : bl5 5232 = true := by decide +kernel
theorem ck5_5233 : bl5 5233 = true := by decide +kernel
theorem ck5_5234 : bl5 5234 = true := by decide +kernel
theorem ck5_5235 : bl5 5235 = true := by decide +kernel
theorem ck5_5236 : bl5 5236 = true := by decide +kernel
theorem ck5_5237 : bl5 5237 = true := by decide +kernel
theorem ck5_5238 : bl5 5238 = true := by decide +kernel
theorem ck5_5239 : bl5 5239 = true := by decide +kernel
theorem ck5_5240 : bl5 5240 = true := by decide +kernel
theorem ck5_5241 : bl5 5241 = true := by decide +kernel
theorem ck5_5242 : bl5 5242 = true := by decide +kernel
theorem ck5_5243 : bl5 5243 = true := by decide +kernel
theorem ck5_5244 : bl5 5244 = true := by decide +kernel
theorem ck5_5245 : bl5 5245 = true := by decide +kernel
theorem ck5_5246 : bl5 5246 = true := by decide +kernel
theorem ck5_5247 : bl5 5247 = true := by decide +kernel
theorem ck5_5248 : bl5 5248 = true := by decide +kernel
theorem ck5_5249 : bl5 5249 = true := by decide +kernel
theorem ck5_5250 : bl5 5250 = true := by decide +kernel
theorem ck5_5251 : bl5 5251 = true := by decide +kernel
theorem ck5_5252 : bl5 5252 = true := by decide +kernel
theorem ck5_5253 : bl5 5253 = true := by decide +kernel
theorem ck5_5254 : bl5 5254 = true := by decide +kernel
theorem ck5_5255 : bl5 5255 = true := by decide +kernel
theorem ck5_5256 : bl5 5256 = true := by decide +kernel
theorem ck5_5257 : bl5 5257 = true := by decide +kernel
theorem ck5_5258 : bl5 5258 = true := by decide +kernel
theorem ck5_5259 : bl5 5259 = true := by decide +kernel
theorem ck5_5260 : bl5 5260 = true := by decide +kernel
theorem ck5_5261 : bl5 5261 = true := by decide +kernel
theorem ck5_5262 : bl5 5262 = true := by decide +kernel
theorem ck5_5263 : bl5 5263 = true := by decide +kernel
theorem ck5_5264 : bl5 5264 = true := by decide +kernel
theorem ck5_5265 : bl5 5265 = true := by decide +kernel
theorem ck5_5266 : bl5 5266 = true := by decide +kernel
theorem ck5_5267 : bl5 5267 = true := by decide +kernel
theorem ck5_5268 : bl5 5268 = true := by decide +kernel
theorem ck5_5269 : bl5 5269 = true := by decide +kernel
theorem ck5_5270 : bl5 5270 = true := by decide +kernel
theorem ck5_5271 : bl5 5271 = true := by decide +kernel
theorem ck5_5272 : bl5 5272 = true := by decide +kernel
theorem ck5_5273 : bl5 5273 = true := by decide +kernel
theorem ck5_5274 : bl5 5274 = true := by decide +kernel
theorem ck5_5275 : bl5 5275 = true := by decide +kernel
theorem ck5_5276 : bl5 5276 = true := by decide +kernel
theorem ck5_5277 : bl5 5277 = true := by decide +kernel
theorem ck5_5278 : bl5 5278 = true := by decide +kernel
theorem ck5_5279 : bl5 5279 = true := by decide +kernel
theorem ck5_5280 : bl5 5280 = true := by decide +kernel
theorem ck5_5281 : bl5 5281 = true := by decide +kernel
theorem ck5_5282 : bl5 5282 = true := by decide +kernel
theorem ck5_5283 : bl5 5283 = true := by decide +kernel
theorem ck5_5284 : bl5 5284 = true := by decide +kernel
theorem ck5_5285 : bl5 5285 = true := by decide +kernel
theorem ck5_5286 : bl5 5286 = true := by decide +kernel
theorem ck5_5287 : bl5 5287 = true := by decide +kernel
theorem ck5_5288 : bl5 5288 = true := by decide +kernel
theorem ck5_5289 : bl5 5289 = true := by decide +kernel
theorem ck5_5290 : bl5 5290 = true := by decide +kernel
theorem ck5_5291 : bl5 5291 = true := by decide +kernel
theorem ck5_5292 : bl5 5292 = true := by decide +kernel
theorem ck5_5293 : bl5 5293 = true := by decide +kernel
theorem ck5_5294 : bl5 5294 = true := by decide +kernel
theorem ck5_5295 : bl5 5295 = true := by decide +kernel
theorem ck5_5296 : bl5 5296 = true := by decide +kernel
theorem ck5_5297 : bl5 5297 = true := by decide +kernel
theorem ck5_5298 : bl5 5298 = true := by decide +kernel
theorem ck5_5299 : bl5 5299 = true := by decide +kernel
theorem ck5_5300 : bl5 5300 = true := by decide +kernel
theorem ck5_5301 : bl5 5301 = true := by decide +kernel
theorem ck5_5302 : bl5 5302 = true := by decide +kernel
theorem ck5_5303 : bl5 5303 = true := by decide +kernel
theorem ck5_5304 : bl5 5304 = true := by decide +kernel
theorem ck5_5305 : bl5 5305 = true := by decide +kernel
theorem ck5_5306 : bl5 5306 = true := by decide +kernel
theorem ck5_5307 : bl5 5307 = true := by decide +kernel
theorem ck5_5308 : bl5 5308 = true := by decide +kernel
theorem ck5_5309 : bl5 5309 = true := by decide +kernel
theorem ck5_5310 : bl5 5310 = true := by decide +kernel
theorem ck5_5311 : bl5 5311 = true := by decide +kernel
theorem ck5_5312 : bl5 5312 = true := by decide +kernel
theorem ck5_5313 : bl5 5313 = true := by decide +kernel
theorem ck5_5314 : bl5 5314 = true := by decide +kernel
theorem ck5_5315 : bl5 5315 = true := by decide +kernel
theorem ck5_5316 : bl5 5316 = true := by decide +kernel
theorem ck5_5317 : bl5 5317 = true := by decide +kernel
theorem ck5_5318 : bl5 5318 = true := by decide +kernel
theorem ck5_5319 : bl5 5319 = true := by decide +kernel
theorem ck5_5320 : bl5 5320 = true := by decide +kernel
theorem ck5_5321 : bl5 5321 = true := by decide +kernel
theorem ck5_5322 : bl5 5322 = true := by decide +kernel
theorem ck5_5323 : bl5 5323 = true := by decide +kernel
theorem ck5_5324 : bl5 5324 = true := by decide +kernel
theorem ck5_5325 : bl5 5325 = true := by decide +kernel
theorem ck5_5326 : bl5 5326 = true := by decide +kernel
theorem ck5_5327 : bl5 5327 = true := by decide +kernel
theorem ck5_5328 : bl5 5328 = true := by decide +kernel
theorem ck5_5329 : bl5 5329 = true := by decide +kernel
theorem ck5_5330 : bl5 5330 = true := by decide +kernel
theorem ck5_5331 : bl5 5331 = true := by decide +kernel
theorem ck5_5332 : bl5 5332 = true := by decide +kernel
theorem ck5_5333 : bl5 5333 = true := by decide +kernel
theorem ck5_5334 : bl5 5334 = true := by decide +kernel
theorem ck5_5335 : bl5 5335 = true := by decide +kernel
theorem ck5_5336 : bl5 5336 = true := by decide +kernel
theorem ck5_5337 : bl5 5337 = true := by decide +kernel
theorem ck5_5338 : bl5 5338 = true := by decide +kernel
theorem ck5_5339 : bl5 5339 = true := by decide +kernel
theorem ck5_5340 : bl5 5340 = true := by decide +kernel
theorem ck5_5341 : bl5 5341 = true := by decide +kernel
theorem ck5_5342 : bl5 5342 = true := by decide +kernel
theorem ck5_5343 : bl5 5343 = true := by decide +kernel
theorem ck5_5344 : bl5 5344 = true := by decide +kernel
theorem ck5_5345 : bl5 5345 = true := by decide +kernel
theorem ck5_5346 : bl5 5346 = true := by decide +kernel
theorem ck5_5347 : bl5 5347 = true := by decide +kernel
theorem ck5_5348 : bl5 5348 = true := by decide +kernel
theorem ck5_5349 : bl5 5349 = true := by decide +kernel
theorem ck5_5350 : bl5 5350 = true := by decide +kernel
theorem ck5_5351 : bl5 5351 = true := by decide +kernel
theorem ck5_5352 : bl5 5352 = true := by decide +kernel
theorem ck5_5353 : bl5 5353 = true := by decide +kernel
theorem ck5_5354 : bl5 5354 = true := by decide +kernel
theorem ck5_5355 : bl5 5355 = true := by decide +kernel
theorem ck5_5356 : bl5 5356 = true := by decide +kernel
theorem ck5_5357 : bl5 5357 = true := by decide +kernel
theorem ck5_5358 : bl5 5358 = true := by decide +kernel
theorem ck5_5359 : bl5 5359 = true := by decide +kernel
theorem ck5_5360 : bl5 5360 = true := by decide +kernel
theorem ck5_5361 : bl5 5361 = true := by decide +kernel
theorem ck5_5362 : bl5 5362 = true := by decide +kernel
theorem ck5_5363 : bl5 5363 = true := by decide +kernel
theorem ck5_5364 : bl5 5364 = true := by decide +kernel
theorem ck5_5365 : bl5 5365 = true := by decide +kernel
theorem ck5_5366 : bl5 5366 = true := by decide +kernel
theorem ck5_5367 : bl5 5367 = true := by decide +kernel
theorem ck5_5368 : bl5 5368 = true := by decide +kernel
theorem ck5_5369 : bl5 5369 = true := by decide +kernel
theorem ck5_5370 : bl5 5370 = true := by decide +kernel
theorem ck5_5371 : bl5 5371 = true := by decide +kernel
theorem ck5_5372 : bl5 5372 = true := by decide +kernel
theorem ck5_5373 : bl5 5373 = true := by decide +kernel
theorem ck5_5374 : bl5 5374 = true := by decide +kernel
theorem ck5_5375 : bl5 5375 = true := by decide +kernel
theorem ck5_5376 : bl5 5376 = true := by decide +kernel
theorem ck5_5377 : bl5 5377 = true := by decide +kernel
theorem ck5_5378 : bl5 5378 = true := by decide +kernel
theorem ck5_5379 : bl5 5379 = true := by decide +kernel
theorem ck5_5380 : bl5 5380 = true := by decide +kernel
theorem ck5_5381 : bl5 5381 = true := by decide +kernel
theorem ck5_5382 : bl5 5382 = true := by decide +kernel
theorem ck5_5383 : bl5 5383 = true := by decide +kernel
theorem ck5_5384 : bl5 5384 = true := by decide +kernel
theorem ck5_5385 : bl5 5385 = true := by decide +kernel
theorem ck5_5386 : bl5 5386 = true := by decide +kernel
theorem ck5_5387 : bl5 5387 = true := by decide +kernel
theorem ck5_5388 : bl5 5388 = true := by decide +kernel
theorem ck5_5389 : bl5 5389 = true := by decide +kernel
theorem ck5_5390 : bl5 5390 = true := by decide +kernel
theorem ck5_5391 : bl5 5391 = true := by decide +kernel
theorem ck5_5392 : bl5 5392 = true := by decide +kernel
theorem ck5_5393 : bl5 5393 = true := by decide +kernel
theorem ck5_5394 : bl5 5394 = true := by decide +kernel
theorem ck5_5395 : bl5 5395 = true := by decide +kernel
theorem ck5_5396 : bl5 5396 = true := by decide +kernel
theorem ck5_5397 : bl5 5397 = true := by decide +kernel
theorem ck5_5398 : bl5 5398 = true := by decide +kernel
theorem ck5_5399 : bl5 5399 = true := by decide +kernel
theorem ck5_5400 : bl5 5400 = true := by decide +kernel
theorem ck5_5401 : bl5 5401 = true := by decide +kernel
theorem ck5_5402 : bl5 5402 = true := by decide +kernel
theorem ck5_5403 : bl5 5403 = true := by decide +kernel
theorem ck5_5404 : bl5 5404 = true := by decide +kernel
theorem ck5_5405 : bl5 5405 = true := by decide +kernel
theorem ck5_5406 : bl5 5406 = true := by decide +kernel
theorem ck5_5407 : bl5 5407 = true := by decide +kernel
theorem ck5_5408 : bl5 5408 = true := by decide +kernel
theorem ck5_5409 : bl5 5409 = true := by decide +kernel
theorem ck5_5410 : bl5 5410 = true := by decide +kernel
theorem ck5_5411 : bl5 5411 = true := by decide +kernel
theorem ck5_5412 : bl5 5412 = true := by decide +kernel
theorem ck5_5413 : bl5 5413 = true := by decide +kernel
theorem ck5_5414 : bl5 5414 = true := by decide +kernel
theorem ck5_5415 : bl5 5415 = true := by decide +kernel
theorem ck5_5416 : bl5 5416 = true := by decide +kernel
theorem ck5_5417 : bl5 5417 = true := by decide +kernel
theorem ck5_5418 : bl5 5418 = true := by decide +kernel
theorem ck5_5419 : bl5 5419 = true := by decide +kernel
theorem ck5_5420 : bl5 5420 = true := by decide +kernel
theorem ck5_5421 : bl5 5421 = true := by decide +kernel
theorem ck5_5422 : bl5 5422 = true := by decide +kernel
theorem ck5_5423 : bl5 5423 = true := by decide +kernel
theorem ck5_5424 : bl5 5424 = true := by decide +kernel
theorem ck5_5425 : bl5 5425 = true := by decide +kernel
theorem ck5_5426 : bl5 5426 = true := by decide +kernel
theorem ck5_5427 : bl5 5427 = true := by decide +kernel
theorem ck5_5428 : bl5 5428 = true := by decide +kernel
theorem ck5_5429 : bl5 5429 = true := by decide +kernel
theorem ck5_5430 : bl5 5430 = true := by decide +kernel
theorem ck5_5431 : bl5 5431 = true := by decide +kernel
theorem ck5_5432 : bl5 5432 = true := by decide +kernel
theorem ck5_5433 : bl5 5433 = true := by decide +kernel
theorem ck5_5434 : bl5 5434 = true := by decide +kernel
theorem ck5_5435 : bl5 5435 = true := by decide +kernel
theorem ck5_5436 : bl5 5436 = true := by decide +kernel
theorem ck5_5437 : bl5 5437 = true := by decide +kernel
theorem ck5_5438 : bl5 5438 = true := by decide +kernel
theorem ck5_5439 : bl5 5439 = true := by decide +kernel
theorem ck5_5440 : bl5 5440 = true := by decide +kernel
theorem ck5_5441 : bl5 5441 = true := by decide +kernel
theorem ck5_5442 : bl5 5442 = true := by decide +kernel
theorem ck5_5443 : bl5 5443 = true := by decide +kernel
theorem ck5_5444 : bl5 5444 = true := by decide +kernel
theorem ck5_5445 : bl5 5445 = true := by decide +kernel
theorem ck5_5446 : bl5 5446 = true := by decide +kernel
theorem ck5_5447 : bl5 5447 = true := by decide +kernel
theorem ck5_5448 : bl5 5448 = true := by decide +kernel
theorem ck5_5449 : bl5 5449 = true := by decide +kernel
theorem ck5_5450 : bl5 5450 = true := by decide +kernel
theorem ck5_5451 : bl5 5451 = true := by decide +kernel
theorem ck5_5452 : bl5 5452 = true := by decide +kernel
theorem ck5_5453 : bl5 5453 = true := by decide +kernel
theorem ck5_5454 : bl5 5454 = true := by decide +kernel
theorem ck5_5455 : bl5 5455 = true := by decide +kernel
theorem ck5_5456 : bl5 5456 = true := by decide +kernel
theorem ck5_5457 : bl5 5457 = true := by decide +kernel
theorem ck5_5458 : bl5 5458 = true := by decide +kernel
theorem ck5_5459 : bl5 5459 = true := by decide +kernel
theorem ck5_5460 : bl5 5460 = true := by decide +kernel
theorem ck5_5461 : bl5 5461 = true := by decide +kernel
theorem ck5_5462 : bl5 5462 = true := by decide +kernel
theorem ck5_5463 : bl5 5463 = true := by decide +kernel
theorem ck5_5464 : bl5 5464 = true := by decide +kernel
theorem ck5_5465 : bl5 5465 = true := by decide +kernel
theorem ck5_5466 : bl5 5466 = true := by decide +kernel
theorem ck5_5467 : bl5 5467 = true := by decide +kernel
theorem ck5_5468 : bl5 5468 = true := by decide +kernel
theorem ck5_5469 : bl5 5469 = true := by decide +kernel
theorem ck5_5470 : bl5 5470 = true := by decide +kernel
theorem ck5_5471 : bl5 5471 = true := by decide +kernel
theorem ck5_5472 : bl5 5472 = true := by decide +kernel
theorem ck5_5473 : bl5 5473 = true := by decide +kernel
theorem ck5_5474 : bl5 5474 = true := by decide +kernel
theorem ck5_5475 : bl5 5475 = true := by decide +kernel
theorem ck5_5476 : bl5 5476 = true := by decide +kernel
theorem ck5_5477 : bl5 5477 = true := by decide +kernel
theorem ck5_5478 : bl5 5478 = true := by decide +kernel
theorem ck5_5479 : bl5 5479 = true := by decide +kernel
theorem ck5_5480 : bl5 5480 = true := by decide +kernel
theorem ck5_5481 : bl5 5481 = true := by decide +kernel
theorem ck5_5482 : bl5 5482 = true := by decide +kernel
theorem ck5_5483 : bl5 5483 = true := by decide +kernel
theorem ck5_5484 : bl5 5484 = true := by decide +kernel
theorem ck5_5485 : bl5 5485 = true := by decide +kernel
theorem ck5_5486 : bl5 5486 = true := by decide +kernel
theorem ck5_5487 : bl5 5487 = true := by decide +kernel
theorem ck5_5488 : bl5 5488 = true := by decide +kernel
theorem ck5_5489 : bl5 5489 = true := by decide +kernel
theorem ck5_5490 : bl5 5490 = true := by decide +kernel
theorem ck5_5491 : bl5 5491 = true := by decide +kernel
theorem ck5_5492 : bl5 5492 = true := by decide +kernel
theorem ck5_5493 : bl5 5493 = true := by decide +kernel
theorem ck5_5494 : bl5 5494 = true := by decide +kernel
theorem ck5_5495 : bl5 5495 = true := by decide +kernel
theorem ck5_5496 : bl5 5496 = true := by decide +kernel
theorem ck5_5497 : bl5 5497 = true := by decide +kernel
theorem ck5_5498 : bl5 5498 = true := by decide +kernel
theorem ck5_5499 : bl5 5499 = true := by decide +kernel
theorem ck5_5500 : bl5 5500 = true := by decide +kernel
theorem ck5_5501 : bl5 5501 = true := by decide +kernel
theorem ck5_5502 : bl5 5502 = true := by decide +kernel
theorem ck5_5503 : bl5 5503 = true := by decide +kernel
theorem ck5_5504 : bl5 5504 = true := by decide +kernel
theorem ck5_5505 : bl5 5505 = true := by decide +kernel
theorem ck5_5506 : bl5 5506 = true := by decide +kernel
theorem ck5_5507 : bl5 5507 = true := by decide +kernel
theorem ck5_5508 : bl5 5508 = true := by decide +kernel
theorem ck5_5509 : bl5 5509 = true := by decide +kernel
theorem ck5_5510 : bl5 5510 = true := by decide +kernel
theorem ck5_5511 : bl5 5511 = true := by decide +kernel
theorem ck5_5512 : bl5 5512 = true := by decide +kernel
theorem ck5_5513 : bl5 5513 = true := by decide +kernel
theorem ck5_5514 : bl5 5514 = true := by decide +kernel
theorem ck5_5515 : bl5 5515 = true := by decide +kernel
theorem ck5_5516 : bl5 5516 = true := by decide +kernel
theorem ck5_5517 : bl5 5517 = true := by decide +kernel
theorem ck5_5518 : bl5 5518 = true := by decide +kernel
theorem ck5_5519 : bl5 5519 = true := by decide +kernel
theorem ck5_5520 : bl5 5520 = true := by decide +kernel
theorem ck5_5521 : bl5 5521 = true := by decide +kernel
theorem ck5_5522 : bl5 5522 = true := by decide +kernel
theorem ck5_5523 : bl5 5523 = true := by decide +kernel
theorem ck5_5524 : bl5 5524 = true := by decide +kernel
theorem ck5_5525 : bl5 5525 = true := by decide +kernel
theorem ck5_5526 : bl5 5526 = true := by decide +kernel
theorem ck5_5527 : bl5 5527 = true := by decide +kernel
theorem ck5_5528 : bl5 5528 = true := by decide +kernel
theorem ck5_5529 : bl5 5529 = true := by decide +kernel
theorem ck5_5530 : bl5 5530 = true := by decide +kernel
theorem ck5_5531 : bl5 5531 = true := by decide +kernel
theorem ck5_5532 : bl5 5532 = true := by decide +kernel
theorem ck5_5533 : bl5 5533 = true := by decide +kernel
theorem ck5_5534 : bl5 5534 = true := by decide +kernel
theorem ck5_5535 : bl5 5535 = true := by decide +kernel
theorem ck5_5536 : bl5 5536 = true := by decide +kernel
theorem ck5_5537 : bl5 5537 = true := by decide +kernel
theorem ck5_5538 : bl5 5538 = true := by decide +kernel
theorem ck5_5539 : bl5 5539 = true := by decide +kernel
theorem ck5_5540 : bl5 5540 = true := by decide +kernel
theorem ck5_5541 : bl5 5541 = true := by decide +kernel
theorem ck5_5542 : bl5 5542 = true := by decide +kernel
theorem ck5_5543 : bl5 5543 = true := by decide +kernel
theorem ck5_5544 : bl5 5544 = true := by decide +kernel
theorem ck5_5545 : bl5 5545 = true := by decide +kernel
theorem ck5_5546 : bl5 5546 = true := by decide +kernel
theorem ck5_5547 : bl5 5547 = true := by decide +kernel
theorem ck5_5548 : bl5 5548 = true := by decide +kernel
theorem ck5_5549 : bl5 5549 = true := by decide +kernel
theorem ck5_5550 : bl5 5550 = true := by decide +kernel
theorem ck5_5551 : bl5 5551 = true := by decide +kernel
theorem ck5_5552 : bl5 5552 = true := by decide +kernel
theorem ck5_5553 : bl5 5553 = true := by decide +kernel
theorem ck5_5554 : bl5 5554 = true := by decide +kernel
theorem ck5_5555 : bl5 5555 = true := by decide +kernel
theorem ck5_5556 : bl5 5556 = true := by decide +kernel
theorem ck5_5557 : bl5 5557 = true := by decide +kernel
theorem ck5_5558 : bl5 5558 = true := by decide +kernel
theorem ck5_5559 : bl5 5559 = true := by decide +kernel
theorem ck5_5560 : bl5 5560 = true := by decide +kernel
theorem ck5_5561 : bl5 5561 = true := by decide +kernel
theorem ck5_5562 : bl5 5562 = true := by decide +kernel
theorem ck5_5563 : bl5 5563 = true := by decide +kernel
theorem ck5_5564 : bl5 5564 = true := by decide +kernel
theorem ck5_5565 : bl5 5565 = true := by decide +kernel
theorem ck5_5566 : bl5 5566 = true := by decide +kernel
theorem ck5_5567 : bl5 5567 = true := by decide +kernel
theorem ck5_5568 : bl5 5568 = true := by decide +kernel
theorem ck5_5569 : bl5 5569 = true := by decide +kernel
theorem ck5_5570 : bl5 5570 = true := by decide +kernel
theorem ck5_5571 : bl5 5571 = true := by decide +kernel
theorem ck5_5572 : bl5 5572 = true := by decide +kernel
theorem ck5_5573 : bl5 5573 = true := by decide +kernel
theorem ck5_5574 : bl5 5574 = true := by decide +kernel
theorem ck5_5575 : bl5 5575 = true := by decide +kernel
theorem ck5_5576 : bl5 5576 = true := by decide +kernel
theorem ck5_5577 : bl5 5577 = true := by decide +kernel
theorem ck5_5578 : bl5 5578 = true := by decide +kernel
theorem ck5_5579 : bl5 5579 = true := by decide +kernel
theorem ck5_5580 : bl5 5580 = true := by decide +kernel
theorem ck5_5581 : bl5 5581 = true := by decide +kernel
theorem ck5_5582 : bl5 5582 = true := by decide +kernel
theorem ck5_5583 : bl5 5583 = true := by decide +kernel
theorem ck5_5584 : bl5 5584 = true := by decide +kernel
theorem ck5_5585 : bl5 5585 = true := by decide +kernel
theorem ck5_5586 : bl5 5586 = true := by decide +kernel
theorem ck5_5587 : bl5 5587 = true := by decide +kernel
theorem ck5_5588 : bl5 5588 = true := by decide +kernel
theorem ck5_5589 : bl5 5589 = true := by decide +kernel
theorem ck5_5590 : bl5 5590 = true := by decide +kernel
theorem ck5_5591 : bl5 5591 = true := by decide +kernel
theorem ck5_5592 : bl5 5592 = true := by decide +kernel
theorem ck5_5593 : bl5 5593 = true := by decide +kernel
theorem ck5_5594 : bl5 5594 = true := by decide +kernel
theorem ck5_5595 : bl5 5595 = true := by decide +kernel
theorem ck5_5596 : bl5 5596 = true := by decide +kernel
theorem ck5_5597 : bl5 5597 = true := by decide +kernel
theorem ck5_5598 : bl5 5598 = true := by decide +kernel
theorem ck5_5599 : bl5 5599 = true := by decide +kernel
theorem ck5_5600 : bl5 5600 = true := by decide +kernel
theorem ck5_5601 : bl5 5601 = true := by decide +kernel
theorem ck5_5602 : bl5 5602 = true := by decide +kernel
theorem ck5_5603 : bl5 5603 = true := by decide +kernel
theorem ck5_5604 : bl5 5604 = true := by decide +kernel
theorem ck5_5605 : bl5 5605 = true := by decide +kernel
theorem ck5_5606 : bl5 5606 = true := by decide +kernel
theorem ck5_5607 : bl5 5607 = true := by decide +kernel
theorem ck5_5608 : bl5 5608 = true := by decide +kernel
theorem ck5_5609 : bl5 5609 = true := by decide +kernel
theorem ck5_5610 : bl5 5610 = true := by decide +kernel
theorem ck5_5611 : bl5 5611 = true := by decide +kernel
theorem ck5_5612 : bl5 5612 = true := by decide +kernel
theorem ck5_5613 : bl5 5613 = true := by decide +kernel
theorem ck5_5614 : bl5 5614 = true := by decide +kernel
theorem ck5_5615 : bl5 5615 = true := by decide +kernel
theorem ck5_5616 : bl5 5616 = true := by decide +kernel
theorem ck5_5617 : bl5 5617 = true := by decide +kernel
theorem ck5_5618 : bl5 5618 = true := by decide +kernel
theorem ck5_5619 : bl5 5619 = true := by decide +kernel
theorem ck5_5620 : bl5 5620 = true := by decide +kernel
theorem ck5_5621 : bl5 5621 = true := by decide +kernel
theorem ck5_5622 : bl5 5622 = true := by decide +kernel
theorem ck5_5623 : bl5 5623 = true := by decide +kernel
theorem ck5_5624 : bl5 5624 = true := by decide +kernel
theorem ck5_5625 : bl5 5625 = true := by decide +kernel
theorem ck5_5626 : bl5 5626 = true := by decide +kernel
theorem ck5_5627 : bl5 5627 = true := by decide +kernel
theorem ck5_5628 : bl5 5628 = true := by decide +kernel
theorem ck5_5629 : bl5 5629 = true := by decide +kernel
theorem ck5_5630 : bl5 5630 = true := by decide +kernel
theorem ck5_5631 : bl5 5631 = true := by decide +kernel
theorem ck5_5632 : bl5 5632 = true := by decide +kernel
theorem ck5_5633 : bl5 5633 = true := by decide +kernel
theorem ck5_5634 : bl5 5634 = true := by decide +kernel
theorem ck5_5635 : bl5 5635 = true := by decide +kernel
theorem ck5_5636 : bl5 5636 = true := by decide +kernel
theorem ck5_5637 : bl5 5637 = true := by decide +kernel
theorem ck5_5638 : bl5 5638 = true := by decide +kernel
theorem ck5_5639 : bl5 5639 = true := by decide +kernel
theorem ck5_5640 : bl5 5640 = true := by decide +kernel
theorem ck5_5641 : bl5 5641 = true := by decide +kernel
theorem ck5_5642 : bl5 5642 = true := by decide +kernel
theorem ck5_5643 : bl5 5643 = true := by decide +kernel
theorem ck5_5644 : bl5 5644 = true := by decide +kernel
theorem ck5_5645 : bl5 5645 = true := by decide +kernel
theorem ck5_5646 : bl5 5646 = true := by decide +kernel
theorem ck5_5647 : bl5 5647 = true := by decide +kernel
theorem ck5_5648 : bl5 5648 = true := by decide +kernel
theorem ck5_5649 : bl5 5649 = true := by decide +kernel
theorem ck5_5650 : bl5 5650 = true := by decide +kernel
theorem ck5_5651 : bl5 5651 = true := by decide +kernel
theorem ck5_5652 : bl5 5652 = true := by decide +kernel
theorem ck5_5653 : bl5 5653 = true := by decide +kernel
theorem ck5_5654 : bl5 5654 = true := by decide +kernel
theorem ck5_5655 : bl5 5655 = true := by decide +kernel
theorem ck5_5656 : bl5 5656 = true := by decide +kernel
theorem ck5_5657 : bl5 5657 = true := by decide +kernel
theorem ck5_5658 : bl5 5658 = true := by decide +kernel
theorem ck5_5659 : bl5 5659 = true := by decide +kernel
theorem ck5_5660 : bl5 5660 = true := by decide +kernel
theorem ck5_5661 : bl5 5661 = true := by decide +kernel
theorem ck5_5662 : bl5 5662 = true := by decide +kernel
theorem ck5_5663 : bl5 5663 = true := by decide +kernel
theorem ck5_5664 : bl5 5664 = true := by decide +kernel
theorem ck5_5665 : bl5 5665 = true := by decide +kernel
theorem ck5_5666 : bl5 5666 = true := by decide +kernel
theorem ck5_5667 : bl5 5667 = true := by decide +kernel
theorem ck5_5668 : bl5 5668 = true := by decide +kernel
theorem ck5_5669 : bl5 5669 = true := by decide +kernel
theorem ck5_5670 : bl5 5670 = true := by decide +kernel
theorem ck5_5671 : bl5 5671 = true := by decide +kernel
theorem ck5_5672 : bl5 5672 = true := by decide +kernel
theorem ck5_5673 : bl5 5673 = true := by decide +kernel
theorem ck5_5674 : bl5 5674 = true := by decide +kernel
theorem ck5_5675 : bl5 5675 = true := by decide +kernel
theorem ck5_5676 : bl5 5676 = true := by decide +kernel
theorem ck5_5677 : bl5 5677 = true := by decide +kernel
theorem ck5_5678 : bl5 5678 = true := by decide +kernel
theorem ck5_5679 : bl5 5679 = true := by decide +kernel
theorem ck5_5680 : bl5 5680 = true := by decide +kernel
theorem ck5_5681 : bl5 5681 = true := by decide +kernel
theorem ck5_5682 : bl5 5682 = true := by decide +kernel
theorem ck5_5683 : bl5 5683 = true := by decide +kernel
theorem ck5_5684 : bl5 5684 = true := by decide +kernel
theorem ck5_5685 : bl5 5685 = true := by decide +kernel
theorem ck5_5686 : bl5 5686 = true := by decide +kernel
theorem ck5_5687 : bl5 5687 = true := by decide +kernel
theorem ck5_5688 : bl5 5688 = true := by decide +kernel
theorem ck5_5689 : bl5 5689 = true := by decide +kernel
theorem ck5_5690 : bl5 5690 = true := by decide +kernel
theorem ck5_5691 : bl5 5691 = true := by decide +kernel
theorem ck5_5692 : bl5 5692 = true := by decide +kernel
theorem ck5_5693 : bl5 5693 = true := by decide +kernel
theorem ck5_5694 : bl5 5694 = true := by decide +kernel
theorem ck5_5695 : bl5 5695 = true := by decide +kernel
theorem ck5_5696 : bl5 5696 = true := by decide +kernel
theorem ck5_5697 : bl5 5697 = true := by decide +kernel
theorem ck5_5698 : bl5 5698 = true := by decide +kernel
theorem ck5_5699 : bl5 5699 = true := by decide +kernel
theorem ck5_5700 : bl5 5700 = true := by decide +kernel
theorem ck5_5701 : bl5 5701 = true := by decide +kernel
theorem ck5_5702 : bl5 5702 = true := by decide +kernel
theorem ck5_5703 : bl5 5703 = true := by decide +kernel
theorem ck5_5704 : bl5 5704 = true := by decide +kernel
theorem ck5_5705 : bl5 5705 = true := by decide +kernel
theorem ck5_5706 : bl5 5706 = true := by decide +kernel
theorem ck5_5707 : bl5 5707 = true := by decide +kernel
theorem ck5_5708 : bl5 5708 = true := by decide +kernel
theorem ck5_5709 : bl5 5709 = true := by decide +kernel
theorem ck5_5710 : bl5 5710 = true := by decide +kernel
theorem ck5_5711 : bl5 5711 = true := by decide +kernel
theorem ck5_5712 : bl5 5712 = true := by decide +kernel
theorem ck5_5713 : bl5 5713 = true := by decide +kernel
theorem ck5_5714 : bl5 5714 = true := by decide +kernel
theorem ck5_5715 : bl5 5715 = true := by decide +kernel
theorem ck5_5716 : bl5 5716 = true := by decide +kernel
theorem ck5_5717 : bl5 5717 = true := by decide +kernel
theorem ck5_5718 : bl5 5718 = true := by decide +kernel
theorem ck5_5719 : bl5 5719 = true := by decide +kernel
theorem ck5_5720 : bl5 5720 = true := by decide +kernel
theorem ck5_5721 : bl5 5721 = true := by decide +kernel
theorem ck5_5722 : bl5 5722 = true := by decide +kernel
theorem ck5_5723 : bl5 5723 = true := by decide +kernel
theorem ck5_5724 : bl5 5724 = true := by decide +kernel
theorem ck5_5725 : bl5 5725 = true := by decide +kernel
theorem ck5_5726 : bl5 5726 = true := by decide +kernel
theorem ck5_5727 : bl5 5727 = true := by decide +kernel
theorem ck5_5728 : bl5 5728 = true := by decide +kernel
theorem ck5_5729 : bl5 5729 = true := by decide +kernel
theorem ck5_5730 : bl5 5730 = true := by decide +kernel
theorem ck5_5731 : bl5 5731 = true := by decide +kernel
theorem ck5_5732 : bl5 5732 = true := by decide +kernel
theorem ck5_5733 : bl5 5733 = true := by decide +kernel
theorem ck5_5734 : bl5 5734 = true := by decide +kernel
theorem ck5_5735 : bl5 5735 = true := by decide +kernel
theorem ck5_5736 : bl5 5736 = true := by decide +kernel
theorem ck5_5737 : bl5 5737 = true := by decide +kernel
theorem ck5_5738 : bl5 5738 = true := by decide +kernel
theorem ck5_5739 : bl5 5739 = true := by decide +kernel
theorem ck5_5740 : bl5 5740 = true := by decide +kernel
theorem ck5_5741 : bl5 5741 = true := by decide +kernel
theorem ck5_5742 : bl5 5742 = true := by decide +kernel
theorem ck5_5743 : bl5 5743 = true := by decide +kernel
theorem ck5_5744 : bl5 5744 = true := by decide +kernel
theorem ck5_5745 : bl5 5745 = true := by decide +kernel
theorem ck5_5746 : bl5 5746 = true := by decide +kernel
theorem ck5_5747 : bl5 5747 = true := by decide +kernel
theorem ck5_5748 : bl5 5748 = true := by decide +kernel
theorem ck5_5749 : bl5 5749 = true := by decide +kernel
theorem ck5_5750 : bl5 5750 = true := by decide +kernel
theorem ck5_5751 : bl5 5751 = true := by decide +kernel
theorem ck5_5752 : bl5 5752 = true := by decide +kernel
theorem ck5_5753 : bl5 5753 = true := by decide +kernel
theorem ck5_5754 : bl5 5754 = true := by decide +kernel
theorem ck5_5755 : bl5 5755 = true := by decide +kernel
theorem ck5_5756 : bl5 5756 = true := by decide +kernel
theorem ck5_5757 : bl5 5757 = true := by decide +kernel
theorem ck5_5758 : bl5 5758 = true := by decide +kernel
theorem ck5_5759 : bl5 5759 = true := by decide +kernel
theorem ck5_5760 : bl5 5760 = true := by decide +kernel
theorem ck5_5761 : bl5 5761 = true := by decide +kernel
theorem ck5_5762 : bl5 5762 = true := by decide +kernel
theorem ck5_5763 : bl5 5763 = true := by decide +kernel
theorem ck5_5764 : bl5 5764 = true := by decide +kernel
theorem ck5_5765 : bl5 5765 = true := by decide +kernel
theorem ck5_5766 : bl5 5766 = true := by decide +kernel
theorem ck5_5767 : bl5 5767 = true := by decide +kernel
theorem ck5_5768 : bl5 5768 = true := by decide +kernel
theorem ck5_5769 : bl5 5769 = true := by decide +kernel
theorem ck5_5770 : bl5 5770 = true := by decide +kernel
theorem ck5_5771 : bl5 5771 = true := by decide +kernel
theorem ck5_5772 : bl5 5772 = true := by decide +kernel
theorem ck5_5773 : bl5 5773 = true := by decide +kernel
theorem ck5_5774 : bl5 5774 = true := by decide +kernel
theorem ck5_5775 : bl5 5775 = true := by decide +kernel
theorem ck5_5776 : bl5 5776 = true := by decide +kernel
theorem ck5_5777 : bl5 5777 = true := by decide +kernel
theorem ck5_5778 : bl5 5778 = true := by decide +kernel
theorem ck5_5779 : bl5 5779 = true := by decide +kernel
theorem ck5_5780 : bl5 5780 = true := by decide +kernel
theorem ck5_5781 : bl5 5781 = true := by decide +kernel
theorem ck5_5782 : bl5 5782 = true := by decide +kernel
theorem ck5_5783 : bl5 5783 = true := by decide +kernel
theorem ck5_5784 : bl5 5784 = true := by decide +kernel
theorem ck5_5785 : bl5 5785 = true := by decide +kernel
theorem ck5_5786 : bl5 5786 = true := by decide +kernel
theorem ck5_5787 : bl5 5787 = true := by decide +kernel
theorem ck5_5788 : bl5 5788 = true := by decide +kernel
theorem ck5_5789 : bl5 5789 = true := by decide +kernel
theorem ck5_5790 : bl5 5790 = true := by decide +kernel
theorem ck5_5791 : bl5 5791 = true := by decide +kernel
theorem ck5_5792 : bl5 5792 = true := by decide +kernel
theorem ck5_5793 : bl5 5793 = true := by decide +kernel
theorem ck5_5794 : bl5 5794 = true := by decide +kernel
theorem ck5_5795 : bl5 5795 = true := by decide +kernel
theorem ck5_5796 : bl5 5796 = true := by decide +kernel
theorem ck5_5797 : bl5 5797 = true := by decide +kernel
theorem ck5_5798 : bl5 5798 = true := by decide +kernel
theorem ck5_5799 : bl5 5799 = true := by decide +kernel
theorem ck5_5800 : bl5 5800 = true := by decide +kernel
theorem ck5_5801 : bl5 5801 = true := by decide +kernel
theorem ck5_5802 : bl5 5802 = true := by decide +kernel
theorem ck5_5803 : bl5 5803 = true := by decide +kernel
theorem ck5_5804 : bl5 5804 = true := by decide +kernel
theorem ck5_5805 : bl5 5805 = true := by decide +kernel
theorem ck5_5806 : bl5 5806 = true := by decide +kernel
theorem ck5_5807 : bl5 5807 = true := by decide +kernel
theorem ck5_5808 : bl5 5808 = true := by decide +kernel
theorem ck5_5809 : bl5 5809 = true := by decide +kernel
theorem ck5_5810 : bl5 5810 = true := by decide +kernel
theorem ck5_5811 : bl5 5811 = true := by decide +kernel
theorem ck5_5812 : bl5 5812 = true := by decide +kernel
theorem ck5_5813 : bl5 5813 = true := by decide +kernel
theorem ck5_5814 : bl5 5814 = true := by decide +kernel
theorem ck5_5815 : bl5 5815 = true := by decide +kernel
theorem ck5_5816 : bl5 5816 = true := by decide +kernel
theorem ck5_5817 : bl5 5817 = true := by decide +kernel
theorem ck5_5818 : bl5 5818 = true := by decide +kernel
theorem ck5_5819 : bl5 5819 = true := by decide +kernel
theorem ck5_5820 : bl5 5820 = true := by decide +kernel
theorem ck5_5821 : bl5 5821 = true := by decide +kernel
theorem ck5_5822 : bl5 5822 = true := by decide +kernel
theorem ck5_5823 : bl5 5823 = true := by decide +kernel
theorem ck5_5824 : bl5 5824 = true := by decide +kernel
theorem ck5_5825 : bl5 5825 = true := by decide +kernel
theorem ck5_5826 : bl5 5826 = true := by decide +kernel
theorem ck5_5827 : bl5 5827 = true := by decide +kernel
theorem ck5_5828 : bl5 5828 = true := by decide +kernel
theorem ck5_5829 : bl5 5829 = true := by decide +kernel
theorem ck5_5830 : bl5 5830 = true := by decide +kernel
theorem ck5_5831 : bl5 5831 = true := by decide +kernel
theorem ck5_5832 : bl5 5832 = true := by decide +kernel
theorem ck5_5833 : bl5 5833 = true := by decide +kernel
theorem ck5_5834 : bl5 5834 = true := by decide +kernel
theorem ck5_5835 : bl5 5835 = true := by decide +kernel
theorem ck5_5836 : bl5 5836 = true := by decide +kernel
theorem ck5_5837 : bl5 5837 = true := by decide +kernel
theorem ck5_5838 : bl5 5838 = true := by decide +kernel
theorem ck5_5839 : bl5 5839 = true := by decide +kernel
theorem ck5_5840 : bl5 5840 = true := by decide +kernel
theorem ck5_5841 : bl5 5841 = true := by decide +kernel
theorem ck5_5842 : bl5 5842 = true := by decide +kernel
theorem ck5_5843 : bl5 5843 = true := by decide +kernel
theorem ck5_5844 : bl5 5844 = true := by decide +kernel
theorem ck5_5845 : bl5 5845 = true := by decide +kernel
theorem ck5_5846 : bl5 5846 = true := by decide +kernel
theorem ck5_5847 : bl5 5847 = true := by decide +kernel
theorem ck5_5848 : bl5 5848 = true := by decide +kernel
theorem ck5_5849 : bl5 5849 = true := by decide +kernel
theorem ck5_5850 : bl5 5850 = true := by decide +kernel
theorem ck5_5851 : bl5 5851 = true := by decide +kernel
theorem ck5_5852 : bl5 5852 = true := by decide +kernel
theorem ck5_5853 : bl5 5853 = true := by decide +kernel
theorem ck5_5854 : bl5 5854 = true := by decide +kernel
theorem ck5_5855 : bl5 5855 = true := by decide +kernel
theorem ck5_5856 : bl5 5856 = true := by decide +kernel
theorem ck5_5857 : bl5 5857 = true := by decide +kernel
theorem ck5_5858 : bl5 5858 = true := by decide +kernel
theorem ck5_5859 : bl5 5859 = true := by decide +kernel
theorem ck5_5860 : bl5 5860 = true := by decide +kernel
theorem ck5_5861 : bl5 5861 = true := by decide +kernel
theorem ck5_5862 : bl5 5862 = true := by decide +kernel
theorem ck5_5863 : bl5 5863 = true := by decide +kernel
theorem ck5_5864 : bl5 5864 = true := by decide +kernel
theorem ck5_5865 : bl5 5865 = true := by decide +kernel
theorem ck5_5866 : bl5 5866 = true := by decide +kernel
theorem ck5_5867 : bl5 5867 = true := by decide +kernel
theorem ck5_5868 : bl5 5868 = true := by decide +kernel
theorem ck5_5869 : bl5 5869 = true := by decide +kernel
theorem ck5_5870 : bl5 5870 = true := by decide +kernel
theorem ck5_5871 : bl5 5871 = true := by decide +kernel
theorem ck5_5872 : bl5 5872 = true := by decide +kernel
theorem ck5_5873 : bl5 5873 = true := by decide +kernel
theorem ck5_5874 : bl5 5874 = true := by decide +kernel
theorem ck5_5875 : bl5 5875 = true := by decide +kernel
theorem ck5_5876 : bl5 5876 = true := by decide +kernel
theorem ck5_5877 : bl5 5877 = true := by decide +kernel
theorem ck5_5878 : bl5 5878 = true := by decide +kernel
theorem ck5_5879 : bl5 5879 = true := by decide +kernel
theorem ck5_5880 : bl5 5880 = true := by decide +kernel
theorem ck5_5881 : bl5 5881 = true := by decide +kernel
theorem ck5_5882 : bl5 5882 = true := by decide +kernel
theorem ck5_5883 : bl5 5883 = true := by decide +kernel
theorem ck5_5884 : bl5 5884 = true := by decide +kernel
theorem ck5_5885 : bl5 5885 = true := by decide +kernel
theorem ck5_5886 : bl5 5886 = true := by decide +kernel
theorem ck5_5887 : bl5 5887 = true := by decide +kernel
theorem ck5_5888 : bl5 5888 = true := by decide +kernel
theorem ck5_5889 : bl5 5889 = true := by decide +kernel
theorem ck5_5890 : bl5 5890 = true := by decide +kernel
theorem ck5_5891 : bl5 5891 = true := by decide +kernel
theorem ck5_5892 : bl5 5892 = true := by decide +kernel
theorem ck5_5893 : bl5 5893 = true := by decide +kernel
theorem ck5_5894 : bl5 5894 = true := by decide +kernel
theorem ck5_5895 : bl5 5895 = true := by decide +kernel
theorem ck5_5896 : bl5 5896 = true := by decide +kernel
theorem ck5_5897 : bl5 5897 = true := by decide +kernel
theorem ck5_5898 : bl5 5898 = true := by decide +kernel
theorem ck5_5899 : bl5 5899 = true := by decide +kernel
theorem ck5_5900 : bl5 5900 = true := by decide +kernel
theorem ck5_5901 : bl5 5901 = true := by decide +kernel
theorem ck5_5902 : bl5 5902 = true := by decide +kernel
theorem ck5_5903 : bl5 5903 = true := by decide +kernel
theorem ck5_5904 : bl5 5904 = true := by decide +kernel
theorem ck5_5905 : bl5 5905 = true := by decide +kernel
theorem ck5_5906 : bl5 5906 = true := by decide +kernel
theorem ck5_5907 : bl5 5907 = true := by decide +kernel
theorem ck5_5908 : bl5 5908 = true := by decide +kernel
theorem ck5_5909 : bl5 5909 = true := by decide +kernel
theorem ck5_5910 : bl5 5910 = true := by decide +kernel
theorem ck5_5911 : bl5 5911 = true := by decide +kernel
theorem ck5_5912 : bl5 5912 = true := by decide +kernel
theorem ck5_5913 : bl5 5913 = true := by decide +kernel
theorem ck5_5914 : bl5 5914 = true := by decide +kernel
theorem ck5_5915 : bl5 5915 = true := by decide +kernel
theorem ck5_5916 : bl5 5916 = true := by decide +kernel
theorem ck5_5917 : bl5 5917 = true := by decide +kernel
theorem ck5_5918 : bl5 5918 = true := by decide +kernel
theorem ck5_5919 : bl5 5919 = true := by decide +kernel
theorem ck5_5920 : bl5 5920 = true := by decide +kernel
theorem ck5_5921 : bl5 5921 = true := by decide +kernel
theorem ck5_5922 : bl5 5922 = true := by decide +kernel
theorem ck5_5923 : bl5 5923 = true := by decide +kernel
theorem ck5_5924 : bl5 5924 = true := by decide +kernel
theorem ck5_5925 : bl5 5925 = true := by decide +kernel
theorem ck5_5926 : bl5 5926 = true := by decide +kernel
theorem ck5_5927 : bl5 5927 = true := by decide +kernel
theorem ck5_5928 : bl5 5928 = true := by decide +kernel
theorem ck5_5929 : bl5 5929 = true := by decide +kernel
theorem ck5_5930 : bl5 5930 = true := by decide +kernel
theorem ck5_5931 : bl5 5931 = true := by decide +kernel
theorem ck5_5932 : bl5 5932 = true := by decide +kernel
theorem ck5_5933 : bl5 5933 = true := by decide +kernel
theorem ck5_5934 : bl5 5934 = true := by decide +kernel
theorem ck5_5935 : bl5 5935 = true := by decide +kernel
theorem ck5_5936 : bl5 5936 = true := by decide +kernel
theorem ck5_5937 : bl5 5937 = true := by decide +kernel
theorem ck5_5938 : bl5 5938 = true := by decide +kernel
theorem ck5_5939 : bl5 5939 = true := by decide +kernel
theorem ck5_5940 : bl5 5940 = true := by decide +kernel
theorem ck5_5941 : bl5 5941 = true := by decide +kernel
theorem ck5_5942 : bl5 5942 = true := by decide +kernel
theorem ck5_5943 : bl5 5943 = true := by decide +kernel
theorem ck5_5944 : bl5 5944 = true := by decide +kernel
theorem ck5_5945 : bl5 5945 = true := by decide +kernel
theorem ck5_5946 : bl5 5946 = true := by decide +kernel
theorem ck5_5947 : bl5 5947 = true := by decide +kernel
theorem ck5_5948 : bl5 5948 = true := by decide +kernel
theorem ck5_5949 : bl5 5949 = true := by decide +kernel
theorem ck5_5950 : bl5 5950 = true := by decide +kernel
theorem ck5_5951 : bl5 5951 = true := by decide +kernel
theorem ck5_5952 : bl5 5952 = true := by decide +kernel
theorem ck5_5953 : bl5 5953 = true := by decide +kernel
theorem ck5_5954 : bl5 5954 = true := by decide +kernel
theorem ck5_5955 : bl5 5955 = true := by decide +kernel
theorem ck5_5956 : bl5 5956 = true := by decide +kernel
theorem ck5_5957 : bl5 5957 = true := by decide +kernel
theorem ck5_5958 : bl5 5958 = true := by decide +kernel
theorem ck5_5959 : bl5 5959 = true := by decide +kernel
theorem ck5_5960 : bl5 5960 = true := by decide +kernel
theorem ck5_5961 : bl5 5961 = true := by decide +kernel
theorem ck5_5962 : bl5 5962 = true := by decide +kernel
theorem ck5_5963 : bl5 5963 = true := by decide +kernel
theorem ck5_5964 : bl5 5964 = true := by decide +kernel
theorem ck5_5965 : bl5 5965 = true := by decide +kernel
theorem ck5_5966 : bl5 5966 = true := by decide +kernel
theorem ck5_5967 : bl5 5967 = true := by decide +kernel
theorem ck5_5968 : bl5 5968 = true := by decide +kernel
theorem ck5_5969 : bl5 5969 = true := by decide +kernel
theorem ck5_5970 : bl5 5970 = true := by decide +kernel
theorem ck5_5971 : bl5 5971 = true := by decide +kernel
theorem ck5_5972 : bl5 5972 = true := by decide +kernel
theorem ck5_5973 : bl5 5973 = true := by decide +kernel
theorem ck5_5974 : bl5 5974 = true := by decide +kernel
theorem ck5_5975 : bl5 5975 = true := by decide +kernel
theorem ck5_5976 : bl5 5976 = true := by decide +kernel
theorem ck5_5977 : bl5 5977 = true := by decide +kernel
theorem ck5_5978 : bl5 5978 = true := by decide +kernel
theorem ck5_5979 : bl5 5979 = true := by decide +kernel
theorem ck5_5980 : bl5 5980 = true := by decide +kernel
theorem ck5_5981 : bl5 5981 = true := by decide +kernel
theorem ck5_5982 : bl5 5982 = true := by decide +kernel
theorem ck5_5983 : bl5 5983 = true := by decide +kernel
theorem ck5_5984 : bl5 5984 = true := by decide +kernel
theorem ck5_5985 : bl5 5985 = true := by decide +kernel
theorem ck5_5986 : bl5 5986 = true := by decide +kernel
theorem ck5_5987 : bl5 5987 = true := by decide +kernel
theorem ck5_5988 : bl5 5988 = true := by decide +kernel
theorem ck5_5989 : bl5 5989 = true := by decide +kernel
theorem ck5_5990 : bl5 5990 = true := by decide +kernel
theorem ck5_5991 : bl5 5991 = true := by decide +kernel
theorem ck5_5992 : bl5 5992 = true := by decide +kernel
theorem ck5_5993 : bl5 5993 = true := by decide +kernel
theorem ck5_5994 : bl5 5994 = true := by decide +kernel
theorem ck5_5995 : bl5 5995 = true := by decide +kernel
theorem ck5_5996 : bl5 5996 = true := by decide +kernel
theorem ck5_5997 : bl5 5997 = true := by decide +kernel
theorem ck5_5998 : bl5 5998 = true := by decide +kernel
theorem ck5_5999 : bl5 5999 = true := by decide +kernel
theorem ck5_6000 : bl5 6000 = true := by decide +kernel
theorem ck5_6001 : bl5 6001 = true := by decide +kernel
theorem ck5_6002 : bl5 6002 = true := by decide +kernel
theorem ck5_6003 : bl5 6003 = true := by decide +kernel
theorem ck5_6004 : bl5 6004 = true := by decide +kernel
theorem ck5_6005 : bl5 6005 = true := by decide +kernel
theorem ck5_6006 : bl5 6006 = true := by decide +kernel
theorem ck5_6007 : bl5 6007 = true := by decide +kernel
theorem ck5_6008 : bl5 6008 = true := by decide +kernel
theorem ck5_6009 : bl5 6009 = true := by decide +kernel
theorem ck5_6010 : bl5 6010 = true := by decide +kernel
theorem ck5_6011 : bl5 6011 = true := by decide +kernel
theorem ck5_6012 : bl5 6012 = true := by decide +kernel
theorem ck5_6013 : bl5 6013 = true := by decide +kernel
theorem ck5_6014 : bl5 6014 = true := by decide +kernel
theorem ck5_6015 : bl5 6015 = true := by decide +kernel
theorem ck5_6016 : bl5 6016 = true := by decide +kernel
theorem ck5_6017 : bl5 6017 = true := by decide +kernel
theorem ck5_6018 : bl5 6018 = true := by decide +kernel
theorem ck5_6019 : bl5 6019 = true := by decide +kernel
theorem ck5_6020 : bl5 6020 = true := by decide +kernel
theorem ck5_6021 : bl5 6021 = true := by decide +kernel
theorem ck5_6022 : bl5 6022 = true := by decide +kernel
theorem ck5_6023 : bl5 6023 = true := by decide +kernel
theorem ck5_6024 : bl5 6024 = true := by decide +kernel
theorem ck5_6025 : bl5 6025 = true := by decide +kernel
theorem ck5_6026 : bl5 6026 = true := by decide +kernel
theorem ck5_6027 : bl5 6027 = true := by decide +kernel
theorem ck5_6028 : bl5 6028 = true := by decide +kernel
theorem ck5_6029 : bl5 6029 = true := by decide +kernel
theorem ck5_6030 : bl5 6030 = true := by decide +kernel
theorem ck5_6031 : bl5 6031 = true := by decide +kernel
theorem ck5_6032 : bl5 6032 = true := by decide +kernel
theorem ck5_6033 : bl5 6033 = true := by decide +kernel
theorem ck5_6034 : bl5 6034 = true := by decide +kernel
theorem ck5_6035 : bl5 6035 = true := by decide +kernel
theorem ck5_6036 : bl5 6036 = true := by decide +kernel
theorem ck5_6037 : bl5 6037 = true := by decide +kernel
theorem ck5_6038 : bl5 6038 = true := by decide +kernel
theorem ck5_6039 : bl5 6039 = true := by decide +kernel
theorem ck5_6040 : bl5 6040 = true := by decide +kernel
theorem ck5_6041 : bl5 6041 = true := by decide +kernel
theorem ck5_6042 : bl5 6042 = true := by decide +kernel
theorem ck5_6043 : bl5 6043 = true := by decide +kernel
theorem ck5_6044 : bl5 6044 = true := by decide +kernel
theorem ck5_6045 : bl5 6045 = true := by decide +kernel
theorem ck5_6046 : bl5 6046 = true := by decide +kernel
theorem ck5_6047 : bl5 6047 = true := by decide +kernel
theorem ck5_6048 : bl5 6048 = true := by decide +kernel
theorem ck5_6049 : bl5 6049 = true := by decide +kernel
theorem ck5_6050 : bl5 6050 = true := by decide +kernel
theorem ck5_6051 : bl5 6051 = true := by decide +kernel
theorem ck5_6052 : bl5 6052 = true := by decide +kernel
theorem ck5_6053 : bl5 6053 = true := by decide +kernel
theorem ck5_6054 : bl5 6054 = true := by decide +kernel
theorem ck5_6055 : bl5 6055 = true := by decide +kernel
theorem ck5_6056 : bl5 6056 = true := by decide +kernel
theorem ck5_6057 : bl5 6057 = true := by decide +kernel
theorem ck5_6058 : bl5 6058 = true := by decide +kernel
theorem ck5_6059 : bl5 6059 = true := by decide +kernel
theorem ck5_6060 : bl5 6060 = true := by decide +kernel
theorem ck5_6061 : bl5 6061 = true := by decide +kernel
theorem ck5_6062 : bl5 6062 = true := by decide +kernel
theorem ck5_6063 : bl5 6063 = true := by decide +kernel
theorem ck5_6064 : bl5 6064 = true := by decide +kernel
theorem ck5_6065 : bl5 6065 = true := by decide +kernel
theorem ck5_6066 : bl5 6066 = true := by decide +kernel
theorem ck5_6067 : bl5 6067 = true := by decide +kernel
theorem ck5_6068 : bl5 6068 = true := by decide +kernel
theorem ck5_6069 : bl5 6069 = true := by decide +kernel
theorem ck5_6070 : bl5 6070 = true := by decide +kernel
theorem ck5_6071 : bl5 6071 = true := by decide +kernel
theorem ck5_6072 : bl5 6072 = true := by decide +kernel
theorem ck5_6073 : bl5 6073 = true := by decide +kernel
theorem ck5_6074 : bl5 6074 = true := by decide +kernel
theorem ck5_6075 : bl5 6075 = true := by decide +kernel
theorem ck5_6076 : bl5 6076 = true := by decide +kernel
theorem ck5_6077 : bl5 6077 = true := by decide +kernel
theorem ck5_6078 : bl5 6078 = true := by decide +kernel
theorem ck5_6079 : bl5 6079 = true := by decide +kernel
theorem ck5_6080 : bl5 6080 = true := by decide +kernel
theorem ck5_6081 : bl5 6081 = true := by decide +kernel
theorem ck5_6082 : bl5 6082 = true := by decide +kernel
theorem ck5_6083 : bl5 6083 = true := by decide +kernel
theorem ck5_6084 : bl5 6084 = true := by decide +kernel
theorem ck5_6085 : bl5 6085 = true := by decide +kernel
theorem ck5_6086 : bl5 6086 = true := by decide +kernel
theorem ck5_6087 : bl5 6087 = true := by decide +kernel
theorem ck5_6088 : bl5 6088 = true := by decide +kernel
theorem ck5_6089 : bl5 6089 = true := by decide +kernel
theorem ck5_6090 : bl5 6090 = true := by decide +kernel
theorem ck5_6091 : bl5 6091 = true := by decide +kernel
theorem ck5_6092 : bl5 6092 = true := by decide +kernel
theorem ck5_6093 : bl5 6093 = true := by decide +kernel
theorem ck5_6094 : bl5 6094 = true := by decide +kernel
theorem ck5_6095 : bl5 6095 = true := by decide +kernel
theorem ck5_6096 : bl5 6096 = true := by decide +kernel
theorem ck5_6097 : bl5 6097 = true := by decide +kernel
theorem ck5_6098 : bl5 6098 = true := by decide +kernel
theorem ck5_6099 : bl5 6099 = true := by decide +kernel
theorem ck5_6100 : bl5 6100 = true := by decide +kernel
theorem ck5_6101 : bl5 6101 = true := by decide +kernel
theorem ck5_6102 : bl5 6102 = true := by decide +kernel
theorem ck5_6103 : bl5 6103 = true := by decide +kernel
theorem ck5_6104 : bl5 6104 = true := by decide +kernel
theorem ck5_6105 : bl5 6105 = true := by decide +kernel
theorem ck5_6106 : bl5 6106 = true := by decide +kernel
theorem ck5_6107 : bl5 6107 = true := by decide +kernel
theorem ck5_6108 : bl5 6108 = true := by decide +kernel
theorem ck5_6109 : bl5 6109 = true := by decide +kernel
theorem ck5_6110 : bl5 6110 = true := by decide +kernel
theorem ck5_6111 : bl5 6111 = true := by decide +kernel
theorem ck5_6112 : bl5 6112 = true := by decide +kernel
theorem ck5_6113 : bl5 6113 = true := by decide +kernel
theorem ck5_6114 : bl5 6114 = true := by decide +kernel
theorem ck5_6115 : bl5 6115 = true := by decide +kernel
theorem ck5_6116 : bl5 6116 = true := by decide +kernel
theorem ck5_6117 : bl5 6117 = true := by decide +kernel
theorem ck5_6118 : bl5 6118 = true := by decide +kernel
theorem ck5_6119 : bl5 6119 = true := by decide +kernel
theorem ck5_6120 : bl5 6120 = true := by decide +kernel
theorem ck5_6121 : bl5 6121 = true := by decide +kernel
theorem ck5_6122 : bl5 6122 = true := by decide +kernel
theorem ck5_6123 : bl5 6123 = true := by decide +kernel
theorem ck5_6124 : bl5 6124 = true := by decide +kernel
theorem ck5_6125 : bl5 6125 = true := by decide +kernel
theorem ck5_6126 : bl5 6126 = true := by decide +kernel
theorem ck5_6127 : bl5 6127 = true := by decide +kernel
theorem ck5_6128 : bl5 6128 = true := by decide +kernel
theorem ck5_6129 : bl5 6129 = true := by decide +kernel
theorem ck5_6130 : bl5 6130 = true := by decide +kernel
theorem ck5_6131 : bl5 6131 = true := by decide +kernel
theorem ck5_6132 : bl5 6132 = true := by decide +kernel
theorem ck5_6133 : bl5 6133 = true := by decide +kernel
theorem ck5_6134 : bl5 6134 = true := by decide +kernel
theorem ck5_6135 : bl5 6135 = true := by decide +kernel
theorem ck5_6136 : bl5 6136 = true := by decide +kernel
theorem ck5_6137 : bl5 6137 = true := by decide +kernel
theorem ck5_6138 : bl5 6138 = true := by decide +kernel
theorem ck5_6139 : bl5 6139 = true := by decide +kernel
theorem ck5_6140 : bl5 6140 = true := by decide +kernel
theorem ck5_6141 : bl5 6141 = true := by decide +kernel
theorem ck5_6142 : bl5 6142 = true := by decide +kernel
theorem ck5_6143 : bl5 6143 = true := by decide +kernel
theorem ck5_6144 : bl5 6144 = true := by decide +kernel
theorem ck5_6145 : bl5 6145 = true := by decide +kernel
theorem ck5_6146 : bl5 6146 = true := by decide +kernel
theorem ck5_6147 : bl5 6147 = true := by decide +kernel
theorem ck5_6148 : bl5 6148 = true := by decide +kernel
theorem ck5_6149 : bl5 6149 = true := by decide +kernel
theorem ck5_6150 : bl5 6150 = true := by decide +kernel
theorem ck5_6151 : bl5 6151 = true := by decide +kernel
theorem ck5_6152 : bl5 6152 = true := by decide +kernel
theorem ck5_6153 : bl5 6153 = true := by decide +kernel
theorem ck5_6154 : bl5 6154 = true := by decide +kernel
theorem ck5_6155 : bl5 6155 = true := by decide +kernel
theorem ck5_6156 : bl5 6156 = true := by decide +kernel
theorem ck5_6157 : bl5 6157 = true := by decide +kernel
theorem ck5_6158 : bl5 6158 = true := by decide +kernel
theorem ck5_6159 : bl5 6159 = true := by decide +kernel
theorem ck5_6160 : bl5 6160 = true := by decide +kernel
theorem ck5_6161 : bl5 6161 = true := by decide +kernel
theorem ck5_6162 : bl5 6162 = true := by decide +kernel
theorem ck5_6163 : bl5 6163 = true := by decide +kernel
theorem ck5_6164 : bl5 6164 = true := by decide +kernel
theorem ck5_6165 : bl5 6165 = true := by decide +kernel
theorem ck5_6166 : bl5 6166 = true := by decide +kernel
theorem ck5_6167 : bl5 6167 = true := by decide +kernel
theorem ck5_6168 : bl5 6168 = true := by decide +kernel
theorem ck5_6169 : bl5 6169 = true := by decide +kernel
theorem ck5_6170 : bl5 6170 = true := by decide +kernel
theorem ck5_6171 : bl5 6171 = true := by decide +kernel
theorem ck5_6172 : bl5 6172 = true := by decide +kernel
theorem ck5_6173 : bl5 6173 = true := by decide +kernel
theorem ck5_6174 : bl5 6174 = true := by decide +kernel
theorem ck5_6175 : bl5 6175 = true := by decide +kernel
theorem ck5_6176 : bl5 6176 = true := by decide +kernel
theorem ck5_6177 : bl5 6177 = true := by decide +kernel
theorem ck5_6178 : bl5 6178 = true := by decide +kernel
theorem ck5_6179 : bl5 6179 = true := by decide +kernel
theorem ck5_6180 : bl5 6180 = true := by decide +kernel
theorem ck5_6181 : bl5 6181 = true := by decide +kernel
theorem ck5_6182 : bl5 6182 = true := by decide +kernel
theorem ck5_6183 : bl5 6183 = true := by decide +kernel
theorem ck5_6184 : bl5 6184 = true := by decide +kernel
theorem ck5_6185 : bl5 6185 = true := by decide +kernel
theorem ck5_6186 : bl5 6186 = true := by decide +kernel
theorem ck5_6187 : bl5 6187 = true := by decide +kernel
theorem ck5_6188 : bl5 6188 = true := by decide +kernel
theorem ck5_6189 : bl5 6189 = true := by decide +kernel
theorem ck5_6190 : bl5 6190 = true := by decide +kernel
theorem ck5_6191 : bl5 6191 = true := by decide +kernel
theorem ck5_6192 : bl5 6192 = true := by decide +kernel
theorem ck5_6193 : bl5 6193 = true := by decide +kernel
theorem ck5_6194 : bl5 6194 = true := by decide +kernel
theorem ck5_6195 : bl5 6195 = true := by decide +kernel
theorem ck5_6196 : bl5 6196 = true := by decide +kernel
theorem ck5_6197 : bl5 6197 = true := by decide +kernel
theorem ck5_6198 : bl5 6198 = true := by decide +kernel
theorem ck5_6199 : bl5 6199 = true := by decide +kernel
theorem ck5_6200 : bl5 6200 = true := by decide +kernel
theorem ck5_6201 : bl5 6201 = true := by decide +kernel
theorem ck5_6202 : bl5 6202 = true := by decide +kernel
theorem ck5_6203 : bl5 6203 = true := by decide +kernel
theorem ck5_6204 : bl5 6204 = true := by decide +kernel
theorem ck5_6205 : bl5 6205 = true := by decide +kernel
theorem ck5_6206 : bl5 6206 = true := by decide +kernel
theorem ck5_6207 : bl5 6207 = true := by decide +kernel
theorem ck5_6208 : bl5 6208 = true := by decide +kernel
theorem ck5_6209 : bl5 6209 = true := by decide +kernel
theorem ck5_6210 : bl5 6210 = true := by decide +kernel
theorem ck5_6211 : bl5 6211 = true := by decide +kernel
theorem ck5_6212 : bl5 6212 = true := by decide +kernel
theorem ck5_6213 : bl5 6213 = true := by decide +kernel
theorem ck5_6214 : bl5 6214 = true := by decide +kernel
theorem ck5_6215 : bl5 6215 = true := by decide +kernel
theorem ck5_6216 : bl5 6216 = true := by decide +kernel
theorem ck5_6217 : bl5 6217 = true := by decide +kernel
theorem ck5_6218 : bl5 6218 = true := by decide +kernel
theorem ck5_6219 : bl5 6219 = true := by decide +kernel
theorem ck5_6220 : bl5 6220 = true := by decide +kernel
theorem ck5_6221 : bl5 6221 = true := by decide +kernel
theorem ck5_6222 : bl5 6222 = true := by decide +kernel
theorem ck5_6223 : bl5 6223 = true := by decide +kernel
theorem ck5_6224 : bl5 6224 = true := by decide +kernel
theorem ck5_6225 : bl5 6225 = true := by decide +kernel
theorem ck5_6226 : bl5 6226 = true := by decide +kernel
theorem ck5_6227 : bl5 6227 = true := by decide +kernel
theorem ck5_6228 : bl5 6228 = true := by decide +kernel
theorem ck5_6229 : bl5 6229 = true := by decide +kernel
theorem ck5_6230 : bl5 6230 = true := by decide +kernel
theorem ck5_6231 : bl5 6231 = true := by decide +kernel
theorem ck5_6232 : bl5 6232 = true := by decide +kernel
theorem ck5_6233 : bl5 6233 = true := by decide +kernel
theorem ck5_6234 : bl5 6234 = true := by decide +kernel
theorem ck5_6235 : bl5 6235 = true := by decide +kernel
theorem ck5_6236 : bl5 6236 = true := by decide +kernel
theorem ck5_6237 : bl5 6237 = true := by decide +kernel
theorem ck5_6238 : bl5 6238 = true := by decide +kernel
theorem ck5_6239 : bl5 6239 = true := by decide +kernel
theorem ck5_6240 : bl5 6240 = true := by decide +kernel
theorem ck5_6241 : bl5 6241 = true := by decide +kernel
theorem ck5_6242 : bl5 6242 = true := by decide +kernel
theorem ck5_6243 : bl5 6243 = true := by decide +kernel
theorem ck5_6244 : bl5 6244 = true := by decide +kernel
theorem ck5_6245 : bl5 6245 = true := by decide +kernel
theorem ck5_6246 : bl5 6246 = true := by decide +kernel
theorem ck5_6247 : bl5 6247 = true := by decide +kernel
theorem ck5_6248 : bl5 6248 = true := by decide +kernel
theorem ck5_6249 : bl5 6249 = true := by decide +kernel
theorem ck5_6250 : bl5 6250 = true := by decide +kernel
theorem ck5_6251 : bl5 6251 = true := by decide +kernel
theorem ck5_6252 : bl5 6252 = true := by decide +kernel
theorem ck5_6253 : bl5 6253 = true := by decide +kernel
theorem ck5_6254 : bl5 6254 = true := by decide +kernel
theorem ck5_6255 : bl5 6255 = true := by decide +kernel
theorem ck5_6256 : bl5 6256 = true := by decide +kernel
theorem ck5_6257 : bl5 6257 = true := by decide +kernel
theorem ck5_6258 : bl5 6258 = true := by decide +kernel
theorem ck5_6259 : bl5 6259 = true := by decide +kernel
theorem ck5_6260 : bl5 6260 = true := by decide +kernel
theorem ck5_6261 : bl5 6261 = true := by decide +kernel
theorem ck5_6262 : bl5 6262 = true := by decide +kernel
theorem ck5_6263 : bl5 6263 = true := by decide +kernel
theorem ck5_6264 : bl5 6264 = true := by decide +kernel
theorem ck5_6265 : bl5 6265 = true := by decide +kernel
theorem ck5_6266 : bl5 6266 = true := by decide +kernel
theorem ck5_6267 : bl5 6267 = true := by decide +kernel
theorem ck5_6268 : bl5 6268 = true := by decide +kernel
theorem ck5_6269 : bl5 6269 = true := by decide +kernel
theorem ck5_6270 : bl5 6270 = true := by decide +kernel
theorem ck5_6271 : bl5 6271 = true := by decide +kernel
theorem ck5_6272 : bl5 6272 = true := by decide +kernel
theorem ck5_6273 : bl5 6273 = true := by decide +kernel
theorem ck5_6274 : bl5 6274 = true := by decide +kernel
theorem ck5_6275 : bl5 6275 = true := by decide +kernel
theorem ck5_6276 : bl5 6276 = true := by decide +kernel
theorem ck5_6277 : bl5 6277 = true := by decide +kernel
theorem ck5_6278 : bl5 6278 = true := by decide +kernel
theorem ck5_6279 : bl5 6279 = true := by decide +kernel
theorem ck5_6280 : bl5 6280 = true := by decide +kernel
theorem ck5_6281 : bl5 6281 = true := by decide +kernel
theorem ck5_6282 : bl5 6282 = true := by decide +kernel
theorem ck5_6283 : bl5 6283 = true := by decide +kernel
theorem ck5_6284 : bl5 6284 = true := by decide +kernel
theorem ck5_6285 : bl5 6285 = true := by decide +kernel
theorem ck5_6286 : bl5 6286 = true := by decide +kernel
theorem ck5_6287 : bl5 6287 = true := by decide +kernel
theorem ck5_6288 : bl5 6288 = true := by decide +kernel
theorem ck5_6289 : bl5 6289 = true := by decide +kernel
theorem ck5_6290 : bl5 6290 = true := by decide +kernel
theorem ck5_6291 : bl5 6291 = true := by decide +kernel
theorem ck5_6292 : bl5 6292 = true := by decide +kernel
theorem ck5_6293 : bl5 6293 = true := by decide +kernel
theorem ck5_6294 : bl5 6294 = true := by decide +kernel
theorem ck5_6295 : bl5 6295 = true := by decide +kernel
theorem ck5_6296 : bl5 6296 = true := by decide +kernel
theorem ck5_6297 : bl5 6297 = true := by decide +kernel
theorem ck5_6298 : bl5 6298 = true := by decide +kernel
theorem ck5_6299 : bl5 6299 = true := by decide +kernel
theorem ck5_6300 : bl5 6300 = true := by decide +kernel
theorem ck5_6301 : bl5 6301 = true := by decide +kernel
theorem ck5_6302 : bl5 6302 = true := by decide +kernel
theorem ck5_6303 : bl5 6303 = true := by decide +kernel
theorem ck5_6304 : bl5 6304 = true := by decide +kernel
theorem ck5_6305 : bl5 6305 = true := by decide +kernel
theorem ck5_6306 : bl5 6306 = true := by decide +kernel
theorem ck5_6307 : bl5 6307 = true := by decide +kernel
theorem ck5_6308 : bl5 6308 = true := by decide +kernel
theorem ck5_6309 : bl5 6309 = true := by decide +kernel
theorem ck5_6310 : bl5 6310 = true := by decide +kernel
theorem ck5_6311 : bl5 6311 = true := by decide +kernel
theorem ck5_6312 : bl5 6312 = true := by decide +kernel
theorem ck5_6313 : bl5 6313 = true := by decide +kernel
theorem ck5_6314 : bl5 6314 = true := by decide +kernel
theorem ck5_6315 : bl5 6315 = true := by decide +kernel
theorem ck5_6316 : bl5 6316 = true := by decide +kernel
theorem ck5_6317 : bl5 6317 = true := by decide +kernel
theorem ck5_6318 : bl5 6318 = true := by decide +kernel
theorem ck5_6319 : bl5 6319 = true := by decide +kernel
theorem ck5_6320 : bl5 6320 = true := by decide +kernel
theorem ck5_6321 : bl5 6321 = true := by decide +kernel
theorem ck5_6322 : bl5 6322 = true := by decide +kernel
theorem ck5_6323 : bl5 6323 = true := by decide +kernel
theorem ck5_6324 : bl5 6324 = true := by decide +kernel
theorem ck5_6325 : bl5 6325 = true := by decide +kernel
theorem ck5_6326 : bl5 6326 = true := by decide +kernel
theorem ck5_6327 : bl5 6327 = true := by decide +kernel
theorem ck5_6328 : bl5 6328 = true := by decide +kernel
theorem ck5_6329 : bl5 6329 = true := by decide +kernel
theorem ck5_6330 : bl5 6330 = true := by decide +kernel
theorem ck5_6331 : bl5 6331 = true := by decide +kernel
theorem ck5_6332 : bl5 6332 = true := by decide +kernel
theorem ck5_6333 : bl5 6333 = true := by decide +kernel
theorem ck5_6334 : bl5 6334 = true := by decide +kernel
theorem ck5_6335 : bl5 6335 = true := by decide +kernel
theorem ck5_6336 : bl5 6336 = true := by decide +kernel
theorem ck5_6337 : bl5 6337 = true := by decide +kernel
theorem ck5_6338 : bl5 6338 = true := by decide +kernel
theorem ck5_6339 : bl5 6339 = true := by decide +kernel
theorem ck5_6340 : bl5 6340 = true := by decide +kernel
theorem ck5_6341 : bl5 6341 = true := by decide +kernel
theorem ck5_6342 : bl5 6342 = true := by decide +kernel
theorem ck5_6343 : bl5 6343 = true := by decide +kernel
theorem ck5_6344 : bl5 6344 = true := by decide +kernel
theorem ck5_6345 : bl5 6345 = true := by decide +kernel
theorem ck5_6346 : bl5 6346 = true := by decide +kernel
theorem ck5_6347 : bl5 6347 = true := by decide +kernel
theorem ck5_6348 : bl5 6348 = true := by decide +kernel
theorem ck5_6349 : bl5 6349 = true := by decide +kernel
theorem ck5_6350 : bl5 6350 = true := by decide +kernel
theorem ck5_6351 : bl5 6351 = true := by decide +kernel
theorem ck5_6352 : bl5 6352 = true := by decide +kernel
theorem ck5_6353 : bl5 6353 = true := by decide +kernel
theorem ck5_6354 : bl5 6354 = true := by decide +kernel
theorem ck5_6355 : bl5 6355 = true := by decide +kernel
theorem ck5_6356 : bl5 6356 = true := by decide +kernel
theorem ck5_6357 : bl5 6357 = true := by decide +kernel
theorem ck5_6358 : bl5 6358 = true := by decide +kernel
theorem ck5_6359 : bl5 6359 = true := by decide +kernel
theorem ck5_6360 : bl5 6360 = true := by decide +kernel
theorem ck5_6361 : bl5 6361 = true := by decide +kernel
theorem ck5_6362 : bl5 6362 = true := by decide +kernel
theorem ck5_6363 : bl5 6363 = true := by decide +kernel
theorem ck5_6364 : bl5 6364 = true := by decide +kernel
theorem ck5_6365 : bl5 6365 = true := by decide +kernel
theorem ck5_6366 : bl5 6366 = true := by decide +kernel
theorem ck5_6367 : bl5 6367 = true := by decide +kernel
theorem ck5_6368 : bl5 6368 = true := by decide +kernel
theorem ck5_6369 : bl5 6369 = true := by decide +kernel
theorem ck5_6370 : bl5 6370 = true := by decide +kernel
theorem ck5_6371 : bl5 6371 = true := by decide +kernel
theorem ck5_6372 : bl5 6372 = true := by decide +kernel
theorem ck5_6373 : bl5 6373 = true := by decide +kernel
theorem ck5_6374 : bl5 6374 = true := by decide +kernel
theorem ck5_6375 : bl5 6375 = true := by decide +kernel
theorem ck5_6376 : bl5 6376 = true := by decide +kernel
theorem ck5_6377 : bl5 6377 = true := by decide +kernel
theorem ck5_6378 : bl5 6378 = true := by decide +kernel
theorem ck5_6379 : bl5 6379 = true := by decide +kernel
theorem ck5_6380 : bl5 6380 = true := by decide +kernel
theorem ck5_6381 : bl5 6381 = true := by decide +kernel
theorem ck5_6382 : bl5 6382 = true := by decide +kernel
theorem ck5_6383 : bl5 6383 = true := by decide +kernel
theorem ck5_6384 : bl5 6384 = true := by decide +kernel
theorem ck5_6385 : bl5 6385 = true := by decide +kernel
theorem ck5_6386 : bl5 6386 = true := by decide +kernel
theorem ck5_6387 : bl5 6387 = true := by decide +kernel
theorem ck5_6388 : bl5 6388 = true := by decide +kernel
theorem ck5_6389 : bl5 6389 = true := by decide +kernel
theorem ck5_6390 : bl5 6390 = true := by decide +kernel
theorem ck5_6391 : bl5 6391 = true := by decide +kernel
theorem ck5_6392 : bl5 6392 = true := by decide +kernel
theorem ck5_6393 : bl5 6393 = true := by decide +kernel
theorem ck5_6394 : bl5 6394 = true := by decide +kernel
theorem ck5_6395 : bl5 6395 = true := by decide +kernel
theorem ck5_6396 : bl5 6396 = true := by decide +kernel
theorem ck5_6397 : bl5 6397 = true := by decide +kernel
theorem ck5_6398 : bl5 6398 = true := by decide +kernel
theorem ck5_6399 : bl5 6399 = true := by decide +kernel
theorem ck5_6400 : bl5 6400 = true := by decide +kernel
theorem ck5_6401 : bl5 6401 = true := by decide +kernel
theorem ck5_6402 : bl5 6402 = true := by decide +kernel
theorem ck5_6403 : bl5 6403 = true := by decide +kernel
theorem ck5_6404 : bl5 6404 = true := by decide +kernel
theorem ck5_6405 : bl5 6405 = true := by decide +kernel
theorem ck5_6406 : bl5 6406 = true := by decide +kernel
theorem ck5_6407 : bl5 6407 = true := by decide +kernel
theorem ck5_6408 : bl5 6408 = true := by decide +kernel
theorem ck5_6409 : bl5 6409 = true := by decide +kernel
theorem ck5_6410 : bl5 6410 = true := by decide +kernel
theorem ck5_6411 : bl5 6411 = true := by decide +kernel
theorem ck5_6412 : bl5 6412 = true := by decide +kernel
theorem ck5_6413 : bl5 6413 = true := by decide +kernel
theorem ck5_6414 : bl5 6414 = true := by decide +kernel
theorem ck5_6415 : bl5 6415 = true := by decide +kernel
theorem ck5_6416 : bl5 6416 = true := by decide +kernel
theorem ck5_6417 : bl5 6417 = true := by decide +kernel
theorem ck5_6418 : bl5 6418 = true := by decide +kernel
theorem ck5_6419 : bl5 6419 = true := by decide +kernel
theorem ck5_6420 : bl5 6420 = true := by decide +kernel
theorem ck5_6421 : bl5 6421 = true := by decide +kernel
theorem ck5_6422 : bl5 6422 = true := by decide +kernel
theorem ck5_6423 : bl5 6423 = true := by decide +kernel
theorem ck5_6424 : bl5 6424 = true := by decide +kernel
theorem ck5_6425 : bl5 6425 = true := by decide +kernel
theorem ck5_6426 : bl5 6426 = true := by decide +kernel
theorem ck5_6427 : bl5 6427 = true := by decide +kernel
theorem ck5_6428 : bl5 6428 = true := by decide +kernel
theorem ck5_6429 : bl5 6429 = true := by decide +kernel
theorem ck5_6430 : bl5 6430 = true := by decide +kernel
theorem ck5_6431 : bl5 6431 = true := by decide +kernel
theorem ck5_6432 : bl5 6432 = true := by decide +kernel
theorem ck5_6433 : bl5 6433 = true := by decide +kernel
theorem ck5_6434 : bl5 6434 = true := by decide +kernel
theorem ck5_6435 : bl5 6435 = true := by decide +kernel
theorem ck5_6436 : bl5 6436 = true := by decide +kernel
theorem ck5_6437 : bl5 6437 = true := by decide +kernel
theorem ck5_6438 : bl5 6438 = true := by decide +kernel
theorem ck5_6439 : bl5 6439 = true := by decide +kernel
theorem ck5_6440 : bl5 6440 = true := by decide +kernel
theorem ck5_6441 : bl5 6441 = true := by decide +kernel
theorem ck5_6442 : bl5 6442 = true := by decide +kernel
theorem ck5_6443 : bl5 6443 = true := by decide +kernel
theorem ck5_6444 : bl5 6444 = true := by decide +kernel
theorem ck5_6445 : bl5 6445 = true := by decide +kernel
theorem ck5_6446 : bl5 6446 = true := by decide +kernel
theorem ck5_6447 : bl5 6447 = true := by decide +kernel
theorem ck5_6448 : bl5 6448 = true := by decide +kernel
theorem ck5_6449 : bl5 6449 = true := by decide +kernel
theorem ck5_6450 : bl5 6450 = true := by decide +kernel
theorem ck5_6451 : bl5 6451 = true := by decide +kernel
theorem ck5_6452 : bl5 6452 = true := by decide +kernel
theorem ck5_6453 : bl5 6453 = true := by decide +kernel
theorem ck5_6454 : bl5 6454 = true := by decide +kernel
theorem ck5_6455 : bl5 6455 = true := by decide +kernel
theorem ck5_6456 : bl5 6456 = true := by decide +kernel
theorem ck5_6457 : bl5 6457 = true := by decide +kernel
theorem ck5_6458 : bl5 6458 = true := by decide +kernel
theorem ck5_6459 : bl5 6459 = true := by decide +kernel
theorem ck5_6460 : bl5 6460 = true := by decide +kernel
theorem ck5_6461 : bl5 6461 = true := by decide +kernel
theorem ck5_6462 : bl5 6462 = true := by decide +kernel
theorem ck5_6463 : bl5 6463 = true := by decide +kernel
theorem ck5_6464 : bl5 6464 = true := by decide +kernel
theorem ck5_6465 : bl5 6465 = true := by decide +kernel
theorem ck5_6466 : bl5 6466 = true := by decide +kernel
theorem ck5_6467 : bl5 6467 = true := by decide +kernel
theorem ck5_6468 : bl5 6468 = true := by decide +kernel
theorem ck5_6469 : bl5 6469 = true := by decide +kernel
theorem ck5_6470 : bl5 6470 = true := by decide +kernel
theorem ck5_6471 : bl5 6471 = true := by decide +kernel
theorem ck5_6472 : bl5 6472 = true := by decide +kernel
theorem ck5_6473 : bl5 6473 = true := by decide +kernel
theorem ck5_6474 : bl5 6474 = true := by decide +kernel
theorem ck5_6475 : bl5 6475 = true := by decide +kernel
theorem ck5_6476 : bl5 6476 = true := by decide +kernel
theorem ck5_6477 : bl5 6477 = true := by decide +kernel
theorem ck5_6478 : bl5 6478 = true := by decide +kernel
theorem ck5_6479 : bl5 6479 = true := by decide +kernel
theorem ck5_6480 : bl5 6480 = true := by decide +kernel
theorem ck5_6481 : bl5 6481 = true := by decide +kernel
theorem ck5_6482 : bl5 6482 = true := by decide +kernel
theorem ck5_6483 : bl5 6483 = true := by decide +kernel
theorem ck5_6484 : bl5 6484 = true := by decide +kernel
theorem ck5_6485 : bl5 6485 = true := by decide +kernel
theorem ck5_6486 : bl5 6486 = true := by decide +kernel
theorem ck5_6487 : bl5 6487 = true := by decide +kernel
theorem ck5_6488 : bl5 6488 = true := by decide +kernel
theorem ck5_6489 : bl5 6489 = true := by decide +kernel
theorem ck5_6490 : bl5 6490 = true := by decide +kernel
theorem ck5_6491 : bl5 6491 = true := by decide +kernel
theorem ck5_6492 : bl5 6492 = true := by decide +kernel
theorem ck5_6493 : bl5 6493 = true := by decide +kernel
theorem ck5_6494 : bl5 6494 = true := by decide +kernel
theorem ck5_6495 : bl5 6495 = true := by decide +kernel
theorem ck5_6496 : bl5 6496 = true := by decide +kernel
theorem ck5_6497 : bl5 6497 = true := by decide +kernel
theorem ck5_6498 : bl5 6498 = true := by decide +kernel
theorem ck5_6499 : bl5 6499 = true := by decide +kernel
theorem ck5_6500 : bl5 6500 = true := by decide +kernel
theorem ck5_6501 : bl5 6501 = true := by decide +kernel
theorem ck5_6502 : bl5 6502 = true := by decide +kernel
theorem ck5_6503 : bl5 6503 = true := by decide +kernel
theorem ck5_6504 : bl5 6504 = true := by decide +kernel
theorem ck5_6505 : bl5 6505 = true := by decide +kernel
theorem ck5_6506 : bl5 6506 = true := by decide +kernel
theorem ck5_6507 : bl5 6507 = true := by decide +kernel
theorem ck5_6508 : bl5 6508 = true := by decide +kernel
theorem ck5_6509 : bl5 6509 = true := by decide +kernel
theorem ck5_6510 : bl5 6510 = true := by decide +kernel
theorem ck5_6511 : bl5 6511 = true := by decide +kernel
theorem ck5_6512 : bl5 6512 = true := by decide +kernel
theorem ck5_6513 : bl5 6513 = true := by decide +kernel
theorem ck5_6514 : bl5 6514 = true := by decide +kernel
theorem ck5_6515 : bl5 6515 = true := by decide +kernel
theorem ck5_6516 : bl5 6516 = true := by decide +kernel
theorem ck5_6517 : bl5 6517 = true := by decide +kernel
theorem ck5_6518 : bl5 6518 = true := by decide +kernel
theorem ck5_6519 : bl5 6519 = true := by decide +kernel
theorem ck5_6520 : bl5 6520 = true := by decide +kernel
theorem ck5_6521 : bl5 6521 = true := by decide +kernel
theorem ck5_6522 : bl5 6522 = true := by decide +kernel
theorem ck5_6523 : bl5 6523 = true := by decide +kernel
theorem ck5_6524 : bl5 6524 = true := by decide +kernel
theorem ck5_6525 : bl5 6525 = true := by decide +kernel
theorem ck5_6526 : bl5 6526 = true := by decide +kernel
theorem ck5_6527 : bl5 6527 = true := by decide +kernel
theorem ck5_6528 : bl5 6528 = true := by decide +kernel
theorem ck5_6529 : bl5 6529 = true := by decide +kernel
theorem ck5_6530 : bl5 6530 = true := by decide +kernel
theorem ck5_6531 : bl5 6531 = true := by decide +kernel
theorem ck5_6532 : bl5 6532 = true := by decide +kernel
theorem ck5_6533 : bl5 6533 = true := by decide +kernel
theorem ck5_6534 : bl5 6534 = true := by decide +kernel
theorem ck5_6535 : bl5 6535 = true := by decide +kernel
theorem ck5_6536 : bl5 6536 = true := by decide +kernel
theorem ck5_6537 : bl5 6537 = true := by decide +kernel
theorem ck5_6538 : bl5 6538 = true := by decide +kernel
theorem ck5_6539 : bl5 6539 = true := by decide +kernel
theorem ck5_6540 : bl5 6540 = true := by decide +kernel
theorem ck5_6541 : bl5 6541 = true := by decide +kernel
theorem ck5_6542 : bl5 6542 = true := by decide +kernel
theorem ck5_6543 : bl5 6543 = true := by decide +kernel
theorem ck5_6544 : bl5 6544 = true := by decide +kernel
theorem ck5_6545 : bl5 6545 = true := by decide +kernel
theorem ck5_6546 : bl5 6546 = true := by decide +kernel
theorem ck5_6547 : bl5 6547 = true := by decide +kernel
theorem ck5_6548 : bl5 6548 = true := by decide +kernel
theorem ck5_6549 : bl5 6549 = true := by decide +kernel
theorem ck5_6550 : bl5 6550 = true := by decide +kernel
theorem ck5_6551 : bl5 6551 = true := by decide +kernel
theorem ck5_6552 : bl5 6552 = true := by decide +kernel
theorem ck5_6553 : bl5 6553 = true := by decide +kernel
theorem ck5_6554 : bl5 6554 = true := by decide +kernel
theorem ck5_6555 : bl5 6555 = true := by decide +kernel
theorem ck5_6556 : bl5 6556 = true := by decide +kernel
theorem ck5_6557 : bl5 6557 = true := by decide +kernel
theorem ck5_6558 : bl5 6558 = true := by decide +kernel
theorem ck5_6559 : bl5 6559 = true := by decide +kernel
theorem ck5_6560 : bl5 6560 = true := by decide +kernel
theorem ck5g_54 : ∀ k, k < 27 → bl5 (1458 + k) = true := fun k hk => match k with
  | 0 => ck5_1458
  | 1 => ck5_1459
  | 2 => ck5_1460
  | 3 => ck5_1461
  | 4 => ck5_1462
  | 5 => ck5_1463
  | 6 => ck5_1464
  | 7 => ck5_1465
  | 8 => ck5_1466
  | 9 => ck5_1467
  | 10 => ck5_1468
  | 11 => ck5_1469
  | 12 => ck5_1470
  | 13 => ck5_1471
  | 14 => ck5_1472
  | 15 => ck5_1473
  | 16 => ck5_1474
  | 17 => ck5_1475
  | 18 => ck5_1476
  | 19 => ck5_1477
  | 20 => ck5_1478
  | 21 => ck5_1479
  | 22 => ck5_1480
  | 23 => ck5_1481
  | 24 => ck5_1482
  | 25 => ck5_1483
  | 26 => ck5_1484
  | n + 27 => absurd hk (by omega)
theorem ck5g_55 : ∀ k, k < 27 → bl5 (1485 + k) = true := fun k hk => match k with
  | 0 => ck5_1485
  | 1 => ck5_1486
  | 2 => ck5_1487
  | 3 => ck5_1488
  | 4 => ck5_1489
  | 5 => ck5_1490
  | 6 => ck5_1491
  | 7 => ck5_1492
  | 8 => ck5_1493
  | 9 => ck5_1494
  | 10 => ck5_1495
  | 11 => ck5_1496
  | 12 => ck5_1497
  | 13 => ck5_1498
  | 14 => ck5_1499
  | 15 => ck5_1500
  | 16 => ck5_1501
  | 17 => ck5_1502
  | 18 => ck5_1503
  | 19 => ck5_1504
  | 20 => ck5_1505
  | 21 => ck5_1506
  | 22 => ck5_1507
  | 23 => ck5_1508
  | 24 => ck5_1509
  | 25 => ck5_1510
  | 26 => ck5_1511
  | n + 27 => absurd hk (by omega)
theorem ck5g_56 : ∀ k, k < 27 → bl5 (1512 + k) = true := fun k hk => match k with
  | 0 => ck5_1512
  | 1 => ck5_1513
  | 2 => ck5_1514
  | 3 => ck5_1515
  | 4 => ck5_1516
  | 5 => ck5_1517
  | 6 => ck5_1518
  | 7 => ck5_1519
  | 8 => ck5_1520
  | 9 => ck5_1521
  | 10 => ck5_1522
  | 11 => ck5_1523
  | 12 => ck5_1524
  | 13 => ck5_1525
  | 14 => ck5_1526
  | 15 => ck5_1527
  | 16 => ck5_1528
  | 17 => ck5_1529
  | 18 => ck5_1530
  | 19 => ck5_1531
  | 20 => ck5_1532
  | 21 => ck5_1533
  | 22 => ck5_1534
  | 23 => ck5_1535
  | 24 => ck5_1536
  | 25 => ck5_1537
  | 26 => ck5_1538
  | n + 27 => absurd hk (by omega)
theorem ck5g_57 : ∀ k, k < 27 → bl5 (1539 + k) = true := fun k hk => match k with
  | 0 => ck5_1539
  | 1 => ck5_1540
  | 2 => ck5_1541
  | 3 => ck5_1542
  | 4 => ck5_1543
  | 5 => ck5_1544
  | 6 => ck5_1545
  | 7 => ck5_1546
  | 8 => ck5_1547
  | 9 => ck5_1548
  | 10 => ck5_1549
  | 11 => ck5_1550
  | 12 => ck5_1551
  | 13 => ck5_1552
  | 14 => ck5_1553
  | 15 => ck5_1554
  | 16 => ck5_1555
  | 17 => ck5_1556
  | 18 => ck5_1557
  | 19 => ck5_1558
  | 20 => ck5_1559
  | 21 => ck5_1560
  | 22 => ck5_1561
  | 23 => ck5_1562
  | 24 => ck5_1563
  | 25 => ck5_1564
  | 26 => ck5_1565
  | n + 27 => absurd hk (by omega)
theorem ck5g_58 : ∀ k, k < 27 → bl5 (1566 + k) = true := fun k hk => match k with
  | 0 => ck5_1566
  | 1 => ck5_1567
  | 2 => ck5_1568
  | 3 => ck5_1569
  | 4 => ck5_1570
  | 5 => ck5_1571
  | 6 => ck5_1572
  | 7 => ck5_1573
  | 8 => ck5_1574
  | 9 => ck5_1575
  | 10 => ck5_1576
  | 11 => ck5_1577
  | 12 => ck5_1578
  | 13 => ck5_1579
  | 14 => ck5_1580
  | 15 => ck5_1581
  | 16 => ck5_1582
  | 17 => ck5_1583
  | 18 => ck5_1584
  | 19 => ck5_1585
  | 20 => ck5_1586
  | 21 => ck5_1587
  | 22 => ck5_1588
  | 23 => ck5_1589
  | 24 => ck5_1590
  | 25 => ck5_1591
  | 26 => ck5_1592
  | n + 27 => absurd hk (by omega)
theorem ck5g_59 : ∀ k, k < 27 → bl5 (1593 + k) = true := fun k hk => match k with
  | 0 => ck5_1593
  | 1 => ck5_1594
  | 2 => ck5_1595
  | 3 => ck5_1596
  | 4 => ck5_1597
  | 5 => ck5_1598
  | 6 => ck5_1599
  | 7 => ck5_1600
  | 8 => ck5_1601
  | 9 => ck5_1602
  | 10 => ck5_1603
  | 11 => ck5_1604
  | 12 => ck5_1605
  | 13 => ck5_1606
  | 14 => ck5_1607
  | 15 => ck5_1608
  | 16 => ck5_1609
  | 17 => ck5_1610
  | 18 => ck5_1611
  | 19 => ck5_1612
  | 20 => ck5_1613
  | 21 => ck5_1614
  | 22 => ck5_1615
  | 23 => ck5_1616
  | 24 => ck5_1617
  | 25 => ck5_1618
  | 26 => ck5_1619
  | n + 27 => absurd hk (by omega)
theorem ck5g_60 : ∀ k, k < 27 → bl5 (1620 + k) = true := fun k hk => match k with
  | 0 => ck5_1620
  | 1 => ck5_1621
  | 2 => ck5_1622
  | 3 => ck5_1623
  | 4 => ck5_1624
  | 5 => ck5_1625
  | 6 => ck5_1626
  | 7 => ck5_1627
  | 8 => ck5_1628
  | 9 => ck5_1629
  | 10 => ck5_1630
  | 11 => ck5_1631
  | 12 => ck5_1632
  | 13 => ck5_1633
  | 14 => ck5_1634
  | 15 => ck5_1635
  | 16 => ck5_1636
  | 17 => ck5_1637
  | 18 => ck5_1638
  | 19 => ck5_1639
  | 20 => ck5_1640
  | 21 => ck5_1641
  | 22 => ck5_1642
  | 23 => ck5_1643
  | 24 => ck5_1644
  | 25 => ck5_1645
  | 26 => ck5_1646
  | n + 27 => absurd hk (by omega)
theorem ck5g_61 : ∀ k, k < 27 → bl5 (1647 + k) = true := fun k hk => match k with
  | 0 => ck5_1647
  | 1 => ck5_1648
  | 2 => ck5_1649
  | 3 => ck5_1650
  | 4 => ck5_1651
  | 5 => ck5_1652
  | 6 => ck5_1653
  | 7 => ck5_1654
  | 8 => ck5_1655
  | 9 => ck5_1656
  | 10 => ck5_1657
  | 11 => ck5_1658
  | 12 => ck5_1659
  | 13 => ck5_1660
  | 14 => ck5_1661
  | 15 => ck5_1662
  | 16 => ck5_1663
  | 17 => ck5_1664
  | 18 => ck5_1665
  | 19 => ck5_1666
  | 20 => ck5_1667
  | 21 => ck5_1668
  | 22 => ck5_1669
  | 23 => ck5_1670
  | 24 => ck5_1671
  | 25 => ck5_1672
  | 26 => ck5_1673
  | n + 27 => absurd hk (by omega)
theorem ck5g_62 : ∀ k, k < 27 → bl5 (1674 + k) = true := fun k hk => match k with
  | 0 => ck5_1674
  | 1 => ck5_1675
  | 2 => ck5_1676
  | 3 => ck5_1677
  | 4 => ck5_1678
  | 5 => ck5_1679
  | 6 => ck5_1680
  | 7 => ck5_1681
  | 8 => ck5_1682
  | 9 => ck5_1683
  | 10 => ck5_1684
  | 11 => ck5_1685
  | 12 => ck5_1686
  | 13 => ck5_1687
  | 14 => ck5_1688
  | 15 => ck5_1689
  | 16 => ck5_1690
  | 17 => ck5_1691
  | 18 => ck5_1692
  | 19 => ck5_1693
  | 20 => ck5_1694
  | 21 => ck5_1695
  | 22 => ck5_1696
  | 23 => ck5_1697
  | 24 => ck5_1698
  | 25 => ck5_1699
  | 26 => ck5_1700
  | n + 27 => absurd hk (by omega)
theorem ck5g_63 : ∀ k, k < 27 → bl5 (1701 + k) = true := fun k hk => match k with
  | 0 => ck5_1701
  | 1 => ck5_1702
  | 2 => ck5_1703
  | 3 => ck5_1704
  | 4 => ck5_1705
  | 5 => ck5_1706
  | 6 => ck5_1707
  | 7 => ck5_1708
  | 8 => ck5_1709
  | 9 => ck5_1710
  | 10 => ck5_1711
  | 11 => ck5_1712
  | 12 => ck5_1713
  | 13 => ck5_1714
  | 14 => ck5_1715
  | 15 => ck5_1716
  | 16 => ck5_1717
  | 17 => ck5_1718
  | 18 => ck5_1719
  | 19 => ck5_1720
  | 20 => ck5_1721
  | 21 => ck5_1722
  | 22 => ck5_1723
  | 23 => ck5_1724
  | 24 => ck5_1725
  | 25 => ck5_1726
  | 26 => ck5_1727
  | n + 27 => absurd hk (by omega)
theorem ck5g_64 : ∀ k, k < 27 → bl5 (1728 + k) = true := fun k hk => match k with
  | 0 => ck5_1728
  | 1 => ck5_1729
  | 2 => ck5_1730
  | 3 => ck5_1731
  | 4 => ck5_1732
  | 5 => ck5_1733
  | 6 => ck5_1734
  | 7 => ck5_1735
  | 8 => ck5_1736
  | 9 => ck5_1737
  | 10 => ck5_1738
  | 11 => ck5_1739
  | 12 => ck5_1740
  | 13 => ck5_1741
  | 14 => ck5_1742
  | 15 => ck5_1743
  | 16 => ck5_1744
  | 17 => ck5_1745
  | 18 => ck5_1746
  | 19 => ck5_1747
  | 20 => ck5_1748
  | 21 => ck5_1749
  | 22 => ck5_1750
  | 23 => ck5_1751
  | 24 => ck5_1752
  | 25 => ck5_1753
  | 26 => ck5_1754
  | n + 27 => absurd hk (by omega)
theorem ck5g_65 : ∀ k, k < 27 → bl5 (1755 + k) = true := fun k hk => match k with
  | 0 => ck5_1755
  | 1 => ck5_1756
  | 2 => ck5_1757
  | 3 => ck5_1758
  | 4 => ck5_1759
  | 5 => ck5_1760
  | 6 => ck5_1761
  | 7 => ck5_1762
  | 8 => ck5_1763
  | 9 => ck5_1764
  | 10 => ck5_1765
  | 11 => ck5_1766
  | 12 => ck5_1767
  | 13 => ck5_1768
  | 14 => ck5_1769
  | 15 => ck5_1770
  | 16 => ck5_1771
  | 17 => ck5_1772
  | 18 => ck5_1773
  | 19 => ck5_1774
  | 20 => ck5_1775
  | 21 => ck5_1776
  | 22 => ck5_1777
  | 23 => ck5_1778
  | 24 => ck5_1779
  | 25 => ck5_1780
  | 26 => ck5_1781
  | n + 27 => absurd hk (by omega)
theorem ck5g_66 : ∀ k, k < 27 → bl5 (1782 + k) = true := fun k hk => match k with
  | 0 => ck5_1782
  | 1 => ck5_1783
  | 2 => ck5_1784
  | 3 => ck5_1785
  | 4 => ck5_1786
  | 5 => ck5_1787
  | 6 => ck5_1788
  | 7 => ck5_1789
  | 8 => ck5_1790
  | 9 => ck5_1791
  | 10 => ck5_1792
  | 11 => ck5_1793
  | 12 => ck5_1794
  | 13 => ck5_1795
  | 14 => ck5_1796
  | 15 => ck5_1797
  | 16 => ck5_1798
  | 17 => ck5_1799
  | 18 => ck5_1800
  | 19 => ck5_1801
  | 20 => ck5_1802
  | 21 => ck5_1803
  | 22 => ck5_1804
  | 23 => ck5_1805
  | 24 => ck5_1806
  | 25 => ck5_1807
  | 26 => ck5_1808
  | n + 27 => absurd hk (by omega)
theorem ck5g_67 : ∀ k, k < 27 → bl5 (1809 + k) = true := fun k hk => match k with
  | 0 => ck5_1809
  | 1 => ck5_1810
  | 2 => ck5_1811
  | 3 => ck5_1812
  | 4 => ck5_1813
  | 5 => ck5_1814
  | 6 => ck5_1815
  | 7 => ck5_1816
  | 8 => ck5_1817
  | 9 => ck5_1818
  | 10 => ck5_1819
  | 11 => ck5_1820
  | 12 => ck5_1821
  | 13 => ck5_1822
  | 14 => ck5_1823
  | 15 => ck5_1824
  | 16 => ck5_1825
  | 17 => ck5_1826
  | 18 => ck5_1827
  | 19 => ck5_1828
  | 20 => ck5_1829
  | 21 => ck5_1830
  | 22 => ck5_1831
  | 23 => ck5_1832
  | 24 => ck5_1833
  | 25 => ck5_1834
  | 26 => ck5_1835
  | n + 27 => absurd hk (by omega)
theorem ck5g_68 : ∀ k, k < 27 → bl5 (1836 + k) = true := fun k hk => match k with
  | 0 => ck5_1836
  | 1 => ck5_1837
  | 2 => ck5_1838
  | 3 => ck5_1839
  | 4 => ck5_1840
  | 5 => ck5_1841
  | 6 => ck5_1842
  | 7 => ck5_1843
  | 8 => ck5_1844
  | 9 => ck5_1845
  | 10 => ck5_1846
  | 11 => ck5_1847
  | 12 => ck5_1848
  | 13 => ck5_1849
  | 14 => ck5_1850
  | 15 => ck5_1851
  | 16 => ck5_1852
  | 17 => ck5_1853
  | 18 => ck5_1854
  | 19 => ck5_1855
  | 20 => ck5_1856
  | 21 => ck5_1857
  | 22 => ck5_1858
  | 23 => ck5_1859
  | 24 => ck5_1860
  | 25 => ck5_1861
  | 26 => ck5_1862
  | n + 27 => absurd hk (by omega)
theorem ck5g_69 : ∀ k, k < 27 → bl5 (1863 + k) = true := fun k hk => match k with
  | 0 => ck5_1863
  | 1 => ck5_1864
  | 2 => ck5_1865
  | 3 => ck5_1866
  | 4 => ck5_1867
  | 5 => ck5_1868
  | 6 => ck5_1869
  | 7 => ck5_1870
  | 8 => ck5_1871
  | 9 => ck5_1872
  | 10 => ck5_1873
  | 11 => ck5_1874
  | 12 => ck5_1875
  | 13 => ck5_1876
  | 14 => ck5_1877
  | 15 => ck5_1878
  | 16 => ck5_1879
  | 17 => ck5_1880
  | 18 => ck5_1881
  | 19 => ck5_1882
  | 20 => ck5_1883
  | 21 => ck5_1884
  | 22 => ck5_1885
  | 23 => ck5_1886
  | 24 => ck5_1887
  | 25 => ck5_1888
  | 26 => ck5_1889
  | n + 27 => absurd hk (by omega)
theorem ck5g_70 : ∀ k, k < 27 → bl5 (1890 + k) = true := fun k hk => match k with
  | 0 => ck5_1890
  | 1 => ck5_1891
  | 2 => ck5_1892
  | 3 => ck5_1893
  | 4 => ck5_1894
  | 5 => ck5_1895
  | 6 => ck5_1896
  | 7 => ck5_1897
  | 8 => ck5_1898
  | 9 => ck5_1899
  | 10 => ck5_1900
  | 11 => ck5_1901
  | 12 => ck5_1902
  | 13 => ck5_1903
  | 14 => ck5_1904
  | 15 => ck5_1905
  | 16 => ck5_1906
  | 17 => ck5_1907
  | 18 => ck5_1908
  | 19 => ck5_1909
  | 20 => ck5_1910
  | 21 => ck5_1911
  | 22 => ck5_1912
  | 23 => ck5_1913
  | 24 => ck5_1914
  | 25 => ck5_1915
  | 26 => ck5_1916
  | n + 27 => absurd hk (by omega)
theorem ck5g_71 : ∀ k, k < 27 → bl5 (1917 + k) = true := fun k hk => match k with
  | 0 => ck5_1917
  | 1 => ck5_1918
  | 2 => ck5_1919
  | 3 => ck5_1920
  | 4 => ck5_1921
  | 5 => ck5_1922
  | 6 => ck5_1923
  | 7 => ck5_1924
  | 8 => ck5_1925
  | 9 => ck5_1926
  | 10 => ck5_1927
  | 11 => ck5_1928
  | 12 => ck5_1929
  | 13 => ck5_1930
  | 14 => ck5_1931
  | 15 => ck5_1932
  | 16 => ck5_1933
  | 17 => ck5_1934
  | 18 => ck5_1935
  | 19 => ck5_1936
  | 20 => ck5_1937
  | 21 => ck5_1938
  | 22 => ck5_1939
  | 23 => ck5_1940
  | 24 => ck5_1941
  | 25 => ck5_1942
  | 26 => ck5_1943
  | n + 27 => absurd hk (by omega)
theorem ck5g_72 : ∀ k, k < 27 → bl5 (1944 + k) = true := fun k hk => match k with
  | 0 => ck5_1944
  | 1 => ck5_1945
  | 2 => ck5_1946
  | 3 => ck5_1947
  | 4 => ck5_1948
  | 5 => ck5_1949
  | 6 => ck5_1950
  | 7 => ck5_1951
  | 8 => ck5_1952
  | 9 => ck5_1953
  | 10 => ck5_1954
  | 11 => ck5_1955
  | 12 => ck5_1956
  | 13 => ck5_1957
  | 14 => ck5_1958
  | 15 => ck5_1959
  | 16 => ck5_1960
  | 17 => ck5_1961
  | 18 => ck5_1962
  | 19 => ck5_1963
  | 20 => ck5_1964
  | 21 => ck5_1965
  | 22 => ck5_1966
  | 23 => ck5_1967
  | 24 => ck5_1968
  | 25 => ck5_1969
  | 26 => ck5_1970
  | n + 27 => absurd hk (by omega)
theorem ck5g_73 : ∀ k, k < 27 → bl5 (1971 + k) = true := fun k hk => match k with
  | 0 => ck5_1971
  | 1 => ck5_1972
  | 2 => ck5_1973
  | 3 => ck5_1974
  | 4 => ck5_1975
  | 5 => ck5_1976
  | 6 => ck5_1977
  | 7 => ck5_1978
  | 8 => ck5_1979
  | 9 => ck5_1980
  | 10 => ck5_1981
  | 11 => ck5_1982
  | 12 => ck5_1983
  | 13 => ck5_1984
  | 14 => ck5_1985
  | 15 => ck5_1986
  | 16 => ck5_1987
  | 17 => ck5_1988
  | 18 => ck5_1989
  | 19 => ck5_1990
  | 20 => ck5_1991
  | 21 => ck5_1992
  | 22 => ck5_1993
  | 23 => ck5_1994
  | 24 => ck5_1995
  | 25 => ck5_1996
  | 26 => ck5_1997
  | n + 27 => absurd hk (by omega)
theorem ck5g_74 : ∀ k, k < 27 → bl5 (1998 + k) = true := fun k hk => match k with
  | 0 => ck5_1998
  | 1 => ck5_1999
  | 2 => ck5_2000
  | 3 => ck5_2001
  | 4 => ck5_2002
  | 5 => ck5_2003
  | 6 => ck5_2004
  | 7 => ck5_2005
  | 8 => ck5_2006
  | 9 => ck5_2007
  | 10 => ck5_2008
  | 11 => ck5_2009
  | 12 => ck5_2010
  | 13 => ck5_2011
  | 14 => ck5_2012
  | 15 => ck5_2013
  | 16 => ck5_2014
  | 17 => ck5_2015
  | 18 => ck5_2016
  | 19 => ck5_2017
  | 20 => ck5_2018
  | 21 => ck5_2019
  | 22 => ck5_2020
  | 23 => ck5_2021
  | 24 => ck5_2022
  | 25 => ck5_2023
  | 26 => ck5_2024
  | n + 27 => absurd hk (by omega)
theorem ck5g_75 : ∀ k, k < 27 → bl5 (2025 + k) = true := fun k hk => match k with
  | 0 => ck5_2025
  | 1 => ck5_2026
  | 2 => ck5_2027
  | 3 => ck5_2028
  | 4 => ck5_2029
  | 5 => ck5_2030
  | 6 => ck5_2031
  | 7 => ck5_2032
  | 8 => ck5_2033
  | 9 => ck5_2034
  | 10 => ck5_2035
  | 11 => ck5_2036
  | 12 => ck5_2037
  | 13 => ck5_2038
  | 14 => ck5_2039
  | 15 => ck5_2040
  | 16 => ck5_2041
  | 17 => ck5_2042
  | 18 => ck5_2043
  | 19 => ck5_2044
  | 20 => ck5_2045
  | 21 => ck5_2046
  | 22 => ck5_2047
  | 23 => ck5_2048
  | 24 => ck5_2049
  | 25 => ck5_2050
  | 26 => ck5_2051
  | n + 27 => absurd hk (by omega)
theorem ck5g_76 : ∀ k, k < 27 → bl5 (2052 + k) = true := fun k hk => match k with
  | 0 => ck5_2052
  | 1 => ck5_2053
  | 2 => ck5_2054
  | 3 => ck5_2055
  | 4 => ck5_2056
  | 5 => ck5_2057
  | 6 => ck5_2058
  | 7 => ck5_2059
  | 8 => ck5_2060
  | 9 => ck5_2061
  | 10 => ck5_2062
  | 11 => ck5_2063
  | 12 => ck5_2064
  | 13 => ck5_2065
  | 14 => ck5_2066
  | 15 => ck5_2067
  | 16 => ck5_2068
  | 17 => ck5_2069
  | 18 => ck5_2070
  | 19 => ck5_2071
  | 20 => ck5_2072
  | 21 => ck5_2073
  | 22 => ck5_2074
  | 23 => ck5_2075
  | 24 => ck5_2076
  | 25 => ck5_2077
  | 26 => ck5_2078
  | n + 27 => absurd hk (by omega)
theorem ck5g_77 : ∀ k, k < 27 → bl5 (2079 + k) = true := fun k hk => match k with
  | 0 => ck5_2079
  | 1 => ck5_2080
  | 2 => ck5_2081
  | 3 => ck5_2082
  | 4 => ck5_2083
  | 5 => ck5_2084
  | 6 => ck5_2085
  | 7 => ck5_2086
  | 8 => ck5_2087
  | 9 => ck5_2088
  | 10 => ck5_2089
  | 11 => ck5_2090
  | 12 => ck5_2091
  | 13 => ck5_2092
  | 14 => ck5_2093
  | 15 => ck5_2094
  | 16 => ck5_2095
  | 17 => ck5_2096
  | 18 => ck5_2097
  | 19 => ck5_2098
  | 20 => ck5_2099
  | 21 => ck5_2100
  | 22 => ck5_2101
  | 23 => ck5_2102
  | 24 => ck5_2103
  | 25 => ck5_2104
  | 26 => ck5_2105
  | n + 27 => absurd hk (by omega)
theorem ck5g_78 : ∀ k, k < 27 → bl5 (2106 + k) = true := fun k hk => match k with
  | 0 => ck5_2106
  | 1 => ck5_2107
  | 2 => ck5_2108
  | 3 => ck5_2109
  | 4 => ck5_2110
  | 5 => ck5_2111
  | 6 => ck5_2112
  | 7 => ck5_2113
  | 8 => ck5_2114
  | 9 => ck5_2115
  | 10 => ck5_2116
  | 11 => ck5_2117
  | 12 => ck5_2118
  | 13 => ck5_2119
  | 14 => ck5_2120
  | 15 => ck5_2121
  | 16 => ck5_2122
  | 17 => ck5_2123
  | 18 => ck5_2124
  | 19 => ck5_2125
  | 20 => ck5_2126
  | 21 => ck5_2127
  | 22 => ck5_2128
  | 23 => ck5_2129
  | 24 => ck5_2130
  | 25 => ck5_2131
  | 26 => ck5_2132
  | n + 27 => absurd hk (by omega)
theorem ck5g_79 : ∀ k, k < 27 → bl5 (2133 + k) = true := fun k hk => match k with
  | 0 => ck5_2133
  | 1 => ck5_2134
  | 2 => ck5_2135
  | 3 => ck5_2136
  | 4 => ck5_2137
  | 5 => ck5_2138
  | 6 => ck5_2139
  | 7 => ck5_2140
  | 8 => ck5_2141
  | 9 => ck5_2142
  | 10 => ck5_2143
  | 11 => ck5_2144
  | 12 => ck5_2145
  | 13 => ck5_2146
  | 14 => ck5_2147
  | 15 => ck5_2148
  | 16 => ck5_2149
  | 17 => ck5_2150
  | 18 => ck5_2151
  | 19 => ck5_2152
  | 20 => ck5_2153
  | 21 => ck5_2154
  | 22 => ck5_2155
  | 23 => ck5_2156
  | 24 => ck5_2157
  | 25 => ck5_2158
  | 26 => ck5_2159
  | n + 27 => absurd hk (by omega)
theorem ck5g_80 : ∀ k, k < 27 → bl5 (2160 + k) = true := fun k hk => match k with
  | 0 => ck5_2160
  | 1 => ck5_2161
  | 2 => ck5_2162
  | 3 => ck5_2163
  | 4 => ck5_2164
  | 5 => ck5_2165
  | 6 => ck5_2166
  | 7 => ck5_2167
  | 8 => ck5_2168
  | 9 => ck5_2169
  | 10 => ck5_2170
  | 11 => ck5_2171
  | 12 => ck5_2172
  | 13 => ck5_2173
  | 14 => ck5_2174
  | 15 => ck5_2175
  | 16 => ck5_2176
  | 17 => ck5_2177
  | 18 => ck5_2178
  | 19 => ck5_2179
  | 20 => ck5_2180
  | 21 => ck5_2181
  | 22 => ck5_2182
  | 23 => ck5_2183
  | 24 => ck5_2184
  | 25 => ck5_2185
  | 26 => ck5_2186
  | n + 27 => absurd hk (by omega)
theorem ck5g_81 : ∀ k, k < 27 → bl5 (2187 + k) = true := fun k hk => match k with
  | 0 => ck5_2187
  | 1 => ck5_2188
  | 2 => ck5_2189
  | 3 => ck5_2190
  | 4 => ck5_2191
  | 5 => ck5_2192
  | 6 => ck5_2193
  | 7 => ck5_2194
  | 8 => ck5_2195
  | 9 => ck5_2196
  | 10 => ck5_2197
  | 11 => ck5_2198
  | 12 => ck5_2199
  | 13 => ck5_2200
  | 14 => ck5_2201
  | 15 => ck5_2202
  | 16 => ck5_2203
  | 17 => ck5_2204
  | 18 => ck5_2205
  | 19 => ck5_2206
  | 20 => ck5_2207
  | 21 => ck5_2208
  | 22 => ck5_2209
  | 23 => ck5_2210
  | 24 => ck5_2211
  | 25 => ck5_2212
  | 26 => ck5_2213
  | n + 27 => absurd hk (by omega)
theorem ck5g_82 : ∀ k, k < 27 → bl5 (2214 + k) = true := fun k hk => match k with
  | 0 => ck5_2214
  | 1 => ck5_2215
  | 2 => ck5_2216
  | 3 => ck5_2217
  | 4 => ck5_2218
  | 5 => ck5_2219
  | 6 => ck5_2220
  | 7 => ck5_2221
  | 8 => ck5_2222
  | 9 => ck5_2223
  | 10 => ck5_2224
  | 11 => ck5_2225
  | 12 => ck5_2226
  | 13 => ck5_2227
  | 14 => ck5_2228
  | 15 => ck5_2229
  | 16 => ck5_2230
  | 17 => ck5_2231
  | 18 => ck5_2232
  | 19 => ck5_2233
  | 20 => ck5_2234
  | 21 => ck5_2235
  | 22 => ck5_2236
  | 23 => ck5_2237
  | 24 => ck5_2238
  | 25 => ck5_2239
  | 26 => ck5_2240
  | n + 27 => absurd hk (by omega)
theorem ck5g_83 : ∀ k, k < 27 → bl5 (2241 + k) = true := fun k hk => match k with
  | 0 => ck5_2241
  | 1 => ck5_2242
  | 2 => ck5_2243
  | 3 => ck5_2244
  | 4 => ck5_2245
  | 5 => ck5_2246
  | 6 => ck5_2247
  | 7 => ck5_2248
  | 8 => ck5_2249
  | 9 => ck5_2250
  | 10 => ck5_2251
  | 11 => ck5_2252
  | 12 => ck5_2253
  | 13 => ck5_2254
  | 14 => ck5_2255
  | 15 => ck5_2256
  | 16 => ck5_2257
  | 17 => ck5_2258
  | 18 => ck5_2259
  | 19 => ck5_2260
  | 20 => ck5_2261
  | 21 => ck5_2262
  | 22 => ck5_2263
  | 23 => ck5_2264
  | 24 => ck5_2265
  | 25 => ck5_2266
  | 26 => ck5_2267
  | n + 27 => absurd hk (by omega)
theorem ck5g_84 : ∀ k, k < 27 → bl5 (2268 + k) = true := fun k hk => match k with
  | 0 => ck5_2268
  | 1 => ck5_2269
  | 2 => ck5_2270
  | 3 => ck5_2271
  | 4 => ck5_2272
  | 5 => ck5_2273
  | 6 => ck5_2274
  | 7 => ck5_2275
  | 8 => ck5_2276
  | 9 => ck5_2277
  | 10 => ck5_2278
  | 11 => ck5_2279
  | 12 => ck5_2280
  | 13 => ck5_2281
  | 14 => ck5_2282
  | 15 => ck5_2283
  | 16 => ck5_2284
  | 17 => ck5_2285
  | 18 => ck5_2286
  | 19 => ck5_2287
  | 20 => ck5_2288
  | 21 => ck5_2289
  | 22 => ck5_2290
  | 23 => ck5_2291
  | 24 => ck5_2292
  | 25 => ck5_2293
  | 26 => ck5_2294
  | n + 27 => absurd hk (by omega)
theorem ck5g_85 : ∀ k, k < 27 → bl5 (2295 + k) = true := fun k hk => match k with
  | 0 => ck5_2295
  | 1 => ck5_2296
  | 2 => ck5_2297
  | 3 => ck5_2298
  | 4 => ck5_2299
  | 5 => ck5_2300
  | 6 => ck5_2301
  | 7 => ck5_2302
  | 8 => ck5_2303
  | 9 => ck5_2304
  | 10 => ck5_2305
  | 11 => ck5_2306
  | 12 => ck5_2307
  | 13 => ck5_2308
  | 14 => ck5_2309
  | 15 => ck5_2310
  | 16 => ck5_2311
  | 17 => ck5_2312
  | 18 => ck5_2313
  | 19 => ck5_2314
  | 20 => ck5_2315
  | 21 => ck5_2316
  | 22 => ck5_2317
  | 23 => ck5_2318
  | 24 => ck5_2319
  | 25 => ck5_2320
  | 26 => ck5_2321
  | n + 27 => absurd hk (by omega)
theorem ck5g_86 : ∀ k, k < 27 → bl5 (2322 + k) = true := fun k hk => match k with
  | 0 => ck5_2322
  | 1 => ck5_2323
  | 2 => ck5_2324
  | 3 => ck5_2325
  | 4 => ck5_2326
  | 5 => ck5_2327
  | 6 => ck5_2328
  | 7 => ck5_2329
  | 8 => ck5_2330
  | 9 => ck5_2331
  | 10 => ck5_2332
  | 11 => ck5_2333
  | 12 => ck5_2334
  | 13 => ck5_2335
  | 14 => ck5_2336
  | 15 => ck5_2337
  | 16 => ck5_2338
  | 17 => ck5_2339
  | 18 => ck5_2340
  | 19 => ck5_2341
  | 20 => ck5_2342
  | 21 => ck5_2343
  | 22 => ck5_2344
  | 23 => ck5_2345
  | 24 => ck5_2346
  | 25 => ck5_2347
  | 26 => ck5_2348
  | n + 27 => absurd hk (by omega)
theorem ck5g_87 : ∀ k, k < 27 → bl5 (2349 + k) = true := fun k hk => match k with
  | 0 => ck5_2349
  | 1 => ck5_2350
  | 2 => ck5_2351
  | 3 => ck5_2352
  | 4 => ck5_2353
  | 5 => ck5_2354
  | 6 => ck5_2355
  | 7 => ck5_2356
  | 8 => ck5_2357
  | 9 => ck5_2358
  | 10 => ck5_2359
  | 11 => ck5_2360
  | 12 => ck5_2361
  | 13 => ck5_2362
  | 14 => ck5_2363
  | 15 => ck5_2364
  | 16 => ck5_2365
  | 17 => ck5_2366
  | 18 => ck5_2367
  | 19 => ck5_2368
  | 20 => ck5_2369
  | 21 => ck5_2370
  | 22 => ck5_2371
  | 23 => ck5_2372
  | 24 => ck5_2373
  | 25 => ck5_2374
  | 26 => ck5_2375
  | n + 27 => absurd hk (by omega)
theorem ck5g_88 : ∀ k, k < 27 → bl5 (2376 + k) = true := fun k hk => match k with
  | 0 => ck5_2376
  | 1 => ck5_2377
  | 2 => ck5_2378
  | 3 => ck5_2379
  | 4 => ck5_2380
  | 5 => ck5_2381
  | 6 => ck5_2382
  | 7 => ck5_2383
  | 8 => ck5_2384
  | 9 => ck5_2385
  | 10 => ck5_2386
  | 11 => ck5_2387
  | 12 => ck5_2388
  | 13 => ck5_2389
  | 14 => ck5_2390
  | 15 => ck5_2391
  | 16 => ck5_2392
  | 17 => ck5_2393
  | 18 => ck5_2394
  | 19 => ck5_2395
  | 20 => ck5_2396
  | 21 => ck5_2397
  | 22 => ck5_2398
  | 23 => ck5_2399
  | 24 => ck5_2400
  | 25 => ck5_2401
  | 26 => ck5_2402
  | n + 27 => absurd hk (by omega)
theorem ck5g_89 : ∀ k, k < 27 → bl5 (2403 + k) = true := fun k hk => match k with
  | 0 => ck5_2403
  | 1 => ck5_2404
  | 2 => ck5_2405
  | 3 => ck5_2406
  | 4 => ck5_2407
  | 5 => ck5_2408
  | 6 => ck5_2409
  | 7 => ck5_2410
  | 8 => ck5_2411
  | 9 => ck5_2412
  | 10 => ck5_2413
  | 11 => ck5_2414
  | 12 => ck5_2415
  | 13 => ck5_2416
  | 14 => ck5_2417
  | 15 => ck5_2418
  | 16 => ck5_2419
  | 17 => ck5_2420
  | 18 => ck5_2421
  | 19 => ck5_2422
  | 20 => ck5_2423
  | 21 => ck5_2424
  | 22 => ck5_2425
  | 23 => ck5_2426
  | 24 => ck5_2427
  | 25 => ck5_2428
  | 26 => ck5_2429
  | n + 27 => absurd hk (by omega)
theorem ck5g_90 : ∀ k, k < 27 → bl5 (2430 + k) = true := fun k hk => match k with
  | 0 => ck5_2430
  | 1 => ck5_2431
  | 2 => ck5_2432
  | 3 => ck5_2433
  | 4 => ck5_2434
  | 5 => ck5_2435
  | 6 => ck5_2436
  | 7 => ck5_2437
  | 8 => ck5_2438
  | 9 => ck5_2439
  | 10 => ck5_2440
  | 11 => ck5_2441
  | 12 => ck5_2442
  | 13 => ck5_2443
  | 14 => ck5_2444
  | 15 => ck5_2445
  | 16 => ck5_2446
  | 17 => ck5_2447
  | 18 => ck5_2448
  | 19 => ck5_2449
  | 20 => ck5_2450
  | 21 => ck5_2451
  | 22 => ck5_2452
  | 23 => ck5_2453
  | 24 => ck5_2454
  | 25 => ck5_2455
  | 26 => ck5_2456
  | n + 27 => absurd hk (by omega)
theorem ck5g_91 : ∀ k, k < 27 → bl5 (2457 + k) = true := fun k hk => match k with
  | 0 => ck5_2457
  | 1 => ck5_2458
  | 2 => ck5_2459
  | 3 => ck5_2460
  | 4 => ck5_2461
  | 5 => ck5_2462
  | 6 => ck5_2463
  | 7 => ck5_2464
  | 8 => ck5_2465
  | 9 => ck5_2466
  | 10 => ck5_2467
  | 11 => ck5_2468
  | 12 => ck5_2469
  | 13 => ck5_2470
  | 14 => ck5_2471
  | 15 => ck5_2472
  | 16 => ck5_2473
  | 17 => ck5_2474
  | 18 => ck5_2475
  | 19 => ck5_2476
  | 20 => ck5_2477
  | 21 => ck5_2478
  | 22 => ck5_2479
  | 23 => ck5_2480
  | 24 => ck5_2481
  | 25 => ck5_2482
  | 26 => ck5_2483
  | n + 27 => absurd hk (by omega)
theorem ck5g_92 : ∀ k, k < 27 → bl5 (2484 + k) = true := fun k hk => match k with
  | 0 => ck5_2484
  | 1 => ck5_2485
  | 2 => ck5_2486
  | 3 => ck5_2487
  | 4 => ck5_2488
  | 5 => ck5_2489
  | 6 => ck5_2490
  | 7 => ck5_2491
  | 8 => ck5_2492
  | 9 => ck5_2493
  | 10 => ck5_2494
  | 11 => ck5_2495
  | 12 => ck5_2496
  | 13 => ck5_2497
  | 14 => ck5_2498
  | 15 => ck5_2499
  | 16 => ck5_2500
  | 17 => ck5_2501
  | 18 => ck5_2502
  | 19 => ck5_2503
  | 20 => ck5_2504
  | 21 => ck5_2505
  | 22 => ck5_2506
  | 23 => ck5_2507
  | 24 => ck5_2508
  | 25 => ck5_2509
  | 26 => ck5_2510
  | n + 27 => absurd hk (by omega)
theorem ck5g_93 : ∀ k, k < 27 → bl5 (2511 + k) = true := fun k hk => match k with
  | 0 => ck5_2511
  | 1 => ck5_2512
  | 2 => ck5_2513
  | 3 => ck5_2514
  | 4 => ck5_2515
  | 5 => ck5_2516
  | 6 => ck5_2517
  | 7 => ck5_2518
  | 8 => ck5_2519
  | 9 => ck5_2520
  | 10 => ck5_2521
  | 11 => ck5_2522
  | 12 => ck5_2523
  | 13 => ck5_2524
  | 14 => ck5_2525
  | 15 => ck5_2526
  | 16 => ck5_2527
  | 17 => ck5_2528
  | 18 => ck5_2529
  | 19 => ck5_2530
  | 20 => ck5_2531
  | 21 => ck5_2532
  | 22 => ck5_2533
  | 23 => ck5_2534
  | 24 => ck5_2535
  | 25 => ck5_2536
  | 26 => ck5_2537
  | n + 27 => absurd hk (by omega)
theorem ck5g_94 : ∀ k, k < 27 → bl5 (2538 + k) = true := fun k hk => match k with
  | 0 => ck5_2538
  | 1 => ck5_2539
  | 2 => ck5_2540
  | 3 => ck5_2541
  | 4 => ck5_2542
  | 5 => ck5_2543
  | 6 => ck5_2544
  | 7 => ck5_2545
  | 8 => ck5_2546
  | 9 => ck5_2547
  | 10 => ck5_2548
  | 11 => ck5_2549
  | 12 => ck5_2550
  | 13 => ck5_2551
  | 14 => ck5_2552
  | 15 => ck5_2553
  | 16 => ck5_2554
  | 17 => ck5_2555
  | 18 => ck5_2556
  | 19 => ck5_2557
  | 20 => ck5_2558
  | 21 => ck5_2559
  | 22 => ck5_2560
  | 23 => ck5_2561
  | 24 => ck5_2562
  | 25 => ck5_2563
  | 26 => ck5_2564
  | n + 27 => absurd hk (by omega)
theorem ck5g_95 : ∀ k, k < 27 → bl5 (2565 + k) = true := fun k hk => match k with
  | 0 => ck5_2565
  | 1 => ck5_2566
  | 2 => ck5_2567
  | 3 => ck5_2568
  | 4 => ck5_2569
  | 5 => ck5_2570
  | 6 => ck5_2571
  | 7 => ck5_2572
  | 8 => ck5_2573
  | 9 => ck5_2574
  | 10 => ck5_2575
  | 11 => ck5_2576
  | 12 => ck5_2577
  | 13 => ck5_2578
  | 14 => ck5_2579
  | 15 => ck5_2580
  | 16 => ck5_2581
  | 17 => ck5_2582
  | 18 => ck5_2583
  | 19 => ck5_2584
  | 20 => ck5_2585
  | 21 => ck5_2586
  | 22 => ck5_2587
  | 23 => ck5_2588
  | 24 => ck5_2589
  | 25 => ck5_2590
  | 26 => ck5_2591
  | n + 27 => absurd hk (by omega)
theorem ck5g_96 : ∀ k, k < 27 → bl5 (2592 + k) = true := fun k hk => match k with
  | 0 => ck5_2592
  | 1 => ck5_2593
  | 2 => ck5_2594
  | 3 => ck5_2595
  | 4 => ck5_2596
  | 5 => ck5_2597
  | 6 => ck5_2598
  | 7 => ck5_2599
  | 8 => ck5_2600
  | 9 => ck5_2601
  | 10 => ck5_2602
  | 11 => ck5_2603
  | 12 => ck5_2604
  | 13 => ck5_2605
  | 14 => ck5_2606
  | 15 => ck5_2607
  | 16 => ck5_2608
  | 17 => ck5_2609
  | 18 => ck5_2610
  | 19 => ck5_2611
  | 20 => ck5_2612
  | 21 => ck5_2613
  | 22 => ck5_2614
  | 23 => ck5_2615
  | 24 => ck5_2616
  | 25 => ck5_2617
  | 26 => ck5_2618
  | n + 27 => absurd hk (by omega)
theorem ck5g_97 : ∀ k, k < 27 → bl5 (2619 + k) = true := fun k hk => match k with
  | 0 => ck5_2619
  | 1 => ck5_2620
  | 2 => ck5_2621
  | 3 => ck5_2622
  | 4 => ck5_2623
  | 5 => ck5_2624
  | 6 => ck5_2625
  | 7 => ck5_2626
  | 8 => ck5_2627
  | 9 => ck5_2628
  | 10 => ck5_2629
  | 11 => ck5_2630
  | 12 => ck5_2631
  | 13 => ck5_2632
  | 14 => ck5_2633
  | 15 => ck5_2634
  | 16 => ck5_2635
  | 17 => ck5_2636
  | 18 => ck5_2637
  | 19 => ck5_2638
  | 20 => ck5_2639
  | 21 => ck5_2640
  | 22 => ck5_2641
  | 23 => ck5_2642
  | 24 => ck5_2643
  | 25 => ck5_2644
  | 26 => ck5_2645
  | n + 27 => absurd hk (by omega)
theorem ck5g_98 : ∀ k, k < 27 → bl5 (2646 + k) = true := fun k hk => match k with
  | 0 => ck5_2646
  | 1 => ck5_2647
  | 2 => ck5_2648
  | 3 => ck5_2649
  | 4 => ck5_2650
  | 5 => ck5_2651
  | 6 => ck5_2652
  | 7 => ck5_2653
  | 8 => ck5_2654
  | 9 => ck5_2655
  | 10 => ck5_2656
  | 11 => ck5_2657
  | 12 => ck5_2658
  | 13 => ck5_2659
  | 14 => ck5_2660
  | 15 => ck5_2661
  | 16 => ck5_2662
  | 17 => ck5_2663
  | 18 => ck5_2664
  | 19 => ck5_2665
  | 20 => ck5_2666
  | 21 => ck5_2667
  | 22 => ck5_2668
  | 23 => ck5_2669
  | 24 => ck5_2670
  | 25 => ck5_2671
  | 26 => ck5_2672
  | n + 27 => absurd hk (by omega)
theorem ck5g_99 : ∀ k, k < 27 → bl5 (2673 + k) = true := fun k hk => match k with
  | 0 => ck5_2673
  | 1 => ck5_2674
  | 2 => ck5_2675
  | 3 => ck5_2676
  | 4 => ck5_2677
  | 5 => ck5_2678
  | 6 => ck5_2679
  | 7 => ck5_2680
  | 8 => ck5_2681
  | 9 => ck5_2682
  | 10 => ck5_2683
  | 11 => ck5_2684
  | 12 => ck5_2685
  | 13 => ck5_2686
  | 14 => ck5_2687
  | 15 => ck5_2688
  | 16 => ck5_2689
  | 17 => ck5_2690
  | 18 => ck5_2691
  | 19 => ck5_2692
  | 20 => ck5_2693
  | 21 => ck5_2694
  | 22 => ck5_2695
  | 23 => ck5_2696
  | 24 => ck5_2697
  | 25 => ck5_2698
  | 26 => ck5_2699
  | n + 27 => absurd hk (by omega)
theorem ck5g_100 : ∀ k, k < 27 → bl5 (2700 + k) = true := fun k hk => match k with
  | 0 => ck5_2700
  | 1 => ck5_2701
  | 2 => ck5_2702
  | 3 => ck5_2703
  | 4 => ck5_2704
  | 5 => ck5_2705
  | 6 => ck5_2706
  | 7 => ck5_2707
  | 8 => ck5_2708
  | 9 => ck5_2709
  | 10 => ck5_2710
  | 11 => ck5_2711
  | 12 => ck5_2712
  | 13 => ck5_2713
  | 14 => ck5_2714
  | 15 => ck5_2715
  | 16 => ck5_2716
  | 17 => ck5_2717
  | 18 => ck5_2718
  | 19 => ck5_2719
  | 20 => ck5_2720
  | 21 => ck5_2721
  | 22 => ck5_2722
  | 23 => ck5_2723
  | 24 => ck5_2724
  | 25 => ck5_2725
  | 26 => ck5_2726
  | n + 27 => absurd hk (by omega)
theorem ck5g_101 : ∀ k, k < 27 → bl5 (2727 + k) = true := fun k hk => match k with
  | 0 => ck5_2727
  | 1 => ck5_2728
  | 2 => ck5_2729
  | 3 => ck5_2730
  | 4 => ck5_2731
  | 5 => ck5_2732
  | 6 => ck5_2733
  | 7 => ck5_2734
  | 8 => ck5_2735
  | 9 => ck5_2736
  | 10 => ck5_2737
  | 11 => ck5_2738
  | 12 => ck5_2739
  | 13 => ck5_2740
  | 14 => ck5_2741
  | 15 => ck5_2742
  | 16 => ck5_2743
  | 17 => ck5_2744
  | 18 => ck5_2745
  | 19 => ck5_2746
  | 20 => ck5_2747
  | 21 => ck5_2748
  | 22 => ck5_2749
  | 23 => ck5_2750
  | 24 => ck5_2751
  | 25 => ck5_2752
  | 26 => ck5_2753
  | n + 27 => absurd hk (by omega)
theorem ck5g_102 : ∀ k, k < 27 → bl5 (2754 + k) = true := fun k hk => match k with
  | 0 => ck5_2754
  | 1 => ck5_2755
  | 2 => ck5_2756
  | 3 => ck5_2757
  | 4 => ck5_2758
  | 5 => ck5_2759
  | 6 => ck5_2760
  | 7 => ck5_2761
  | 8 => ck5_2762
  | 9 => ck5_2763
  | 10 => ck5_2764
  | 11 => ck5_2765
  | 12 => ck5_2766
  | 13 => ck5_2767
  | 14 => ck5_2768
  | 15 => ck5_2769
  | 16 => ck5_2770
  | 17 => ck5_2771
  | 18 => ck5_2772
  | 19 => ck5_2773
  | 20 => ck5_2774
  | 21 => ck5_2775
  | 22 => ck5_2776
  | 23 => ck5_2777
  | 24 => ck5_2778
  | 25 => ck5_2779
  | 26 => ck5_2780
  | n + 27 => absurd hk (by omega)
theorem ck5g_103 : ∀ k, k < 27 → bl5 (2781 + k) = true := fun k hk => match k with
  | 0 => ck5_2781
  | 1 => ck5_2782
  | 2 => ck5_2783
  | 3 => ck5_2784
  | 4 => ck5_2785
  | 5 => ck5_2786
  | 6 => ck5_2787
  | 7 => ck5_2788
  | 8 => ck5_2789
  | 9 => ck5_2790
  | 10 => ck5_2791
  | 11 => ck5_2792
  | 12 => ck5_2793
  | 13 => ck5_2794
  | 14 => ck5_2795
  | 15 => ck5_2796
  | 16 => ck5_2797
  | 17 => ck5_2798
  | 18 => ck5_2799
  | 19 => ck5_2800
  | 20 => ck5_2801
  | 21 => ck5_2802
  | 22 => ck5_2803
  | 23 => ck5_2804
  | 24 => ck5_2805
  | 25 => ck5_2806
  | 26 => ck5_2807
  | n + 27 => absurd hk (by omega)
theorem ck5g_104 : ∀ k, k < 27 → bl5 (2808 + k) = true := fun k hk => match k with
  | 0 => ck5_2808
  | 1 => ck5_2809
  | 2 => ck5_2810
  | 3 => ck5_2811
  | 4 => ck5_2812
  | 5 => ck5_2813
  | 6 => ck5_2814
  | 7 => ck5_2815
  | 8 => ck5_2816
  | 9 => ck5_2817
  | 10 => ck5_2818
  | 11 => ck5_2819
  | 12 => ck5_2820
  | 13 => ck5_2821
  | 14 => ck5_2822
  | 15 => ck5_2823
  | 16 => ck5_2824
  | 17 => ck5_2825
  | 18 => ck5_2826
  | 19 => ck5_2827
  | 20 => ck5_2828
  | 21 => ck5_2829
  | 22 => ck5_2830
  | 23 => ck5_2831
  | 24 => ck5_2832
  | 25 => ck5_2833
  | 26 => ck5_2834
  | n + 27 => absurd hk (by omega)
theorem ck5g_105 : ∀ k, k < 27 → bl5 (2835 + k) = true := fun k hk => match k with
  | 0 => ck5_2835
  | 1 => ck5_2836
  | 2 => ck5_2837
  | 3 => ck5_2838
  | 4 => ck5_2839
  | 5 => ck5_2840
  | 6 => ck5_2841
  | 7 => ck5_2842
  | 8 => ck5_2843
  | 9 => ck5_2844
  | 10 => ck5_2845
  | 11 => ck5_2846
  | 12 => ck5_2847
  | 13 => ck5_2848
  | 14 => ck5_2849
  | 15 => ck5_2850
  | 16 => ck5_2851
  | 17 => ck5_2852
  | 18 => ck5_2853
  | 19 => ck5_2854
  | 20 => ck5_2855
  | 21 => ck5_2856
  | 22 => ck5_2857
  | 23 => ck5_2858
  | 24 => ck5_2859
  | 25 => ck5_2860
  | 26 => ck5_2861
  | n + 27 => absurd hk (by omega)
theorem ck5g_106 : ∀ k, k < 27 → bl5 (2862 + k) = true := fun k hk => match k with
  | 0 => ck5_2862
  | 1 => ck5_2863
  | 2 => ck5_2864
  | 3 => ck5_2865
  | 4 => ck5_2866
  | 5 => ck5_2867
  | 6 => ck5_2868
  | 7 => ck5_2869
  | 8 => ck5_2870
  | 9 => ck5_2871
  | 10 => ck5_2872
  | 11 => ck5_2873
  | 12 => ck5_2874
  | 13 => ck5_2875
  | 14 => ck5_2876
  | 15 => ck5_2877
  | 16 => ck5_2878
  | 17 => ck5_2879
  | 18 => ck5_2880
  | 19 => ck5_2881
  | 20 => ck5_2882
  | 21 => ck5_2883
  | 22 => ck5_2884
  | 23 => ck5_2885
  | 24 => ck5_2886
  | 25 => ck5_2887
  | 26 => ck5_2888
  | n + 27 => absurd hk (by omega)
theorem ck5g_107 : ∀ k, k < 27 → bl5 (2889 + k) = true := fun k hk => match k with
  | 0 => ck5_2889
  | 1 => ck5_2890
  | 2 => ck5_2891
  | 3 => ck5_2892
  | 4 => ck5_2893
  | 5 => ck5_2894
  | 6 => ck5_2895
  | 7 => ck5_2896
  | 8 => ck5_2897
  | 9 => ck5_2898
  | 10 => ck5_2899
  | 11 => ck5_2900
  | 12 => ck5_2901
  | 13 => ck5_2902
  | 14 => ck5_2903
  | 15 => ck5_2904
  | 16 => ck5_2905
  | 17 => ck5_2906
  | 18 => ck5_2907
  | 19 => ck5_2908
  | 20 => ck5_2909
  | 21 => ck5_2910
  | 22 => ck5_2911
  | 23 => ck5_2912
  | 24 => ck5_2913
  | 25 => ck5_2914
  | 26 => ck5_2915
  | n + 27 => absurd hk (by omega)
theorem ck5g_108 : ∀ k, k < 27 → bl5 (2916 + k) = true := fun k hk => match k with
  | 0 => ck5_2916
  | 1 => ck5_2917
  | 2 => ck5_2918
  | 3 => ck5_2919
  | 4 => ck5_2920
  | 5 => ck5_2921
  | 6 => ck5_2922
  | 7 => ck5_2923
  | 8 => ck5_2924
  | 9 => ck5_2925
  | 10 => ck5_2926
  | 11 => ck5_2927
  | 12 => ck5_2928
  | 13 => ck5_2929
  | 14 => ck5_2930
  | 15 => ck5_2931
  | 16 => ck5_2932
  | 17 => ck5_2933
  | 18 => ck5_2934
  | 19 => ck5_2935
  | 20 => ck5_2936
  | 21 => ck5_2937
  | 22 => ck5_2938
  | 23 => ck5_2939
  | 24 => ck5_2940
  | 25 => ck5_2941
  | 26 => ck5_2942
  | n + 27 => absurd hk (by omega)
theorem ck5g_109 : ∀ k, k < 27 → bl5 (2943 + k) = true := fun k hk => match k with
  | 0 => ck5_2943
  | 1 => ck5_2944
  | 2 => ck5_2945
  | 3 => ck5_2946
  | 4 => ck5_2947
  | 5 => ck5_2948
  | 6 => ck5_2949
  | 7 => ck5_2950
  | 8 => ck5_2951
  | 9 => ck5_2952
  | 10 => ck5_2953
  | 11 => ck5_2954
  | 12 => ck5_2955
  | 13 => ck5_2956
  | 14 => ck5_2957
  | 15 => ck5_2958
  | 16 => ck5_2959
  | 17 => ck5_2960
  | 18 => ck5_2961
  | 19 => ck5_2962
  | 20 => ck5_2963
  | 21 => ck5_2964
  | 22 => ck5_2965
  | 23 => ck5_2966
  | 24 => ck5_2967
  | 25 => ck5_2968
  | 26 => ck5_2969
  | n + 27 => absurd hk (by omega)
theorem ck5g_110 : ∀ k, k < 27 → bl5 (2970 + k) = true := fun k hk => match k with
  | 0 => ck5_2970
  | 1 => ck5_2971
  | 2 => ck5_2972
  | 3 => ck5_2973
  | 4 => ck5_2974
  | 5 => ck5_2975
  | 6 => ck5_2976
  | 7 => ck5_2977
  | 8 => ck5_2978
  | 9 => ck5_2979
  | 10 => ck5_2980
  | 11 => ck5_2981
  | 12 => ck5_2982
  | 13 => ck5_2983
  | 14 => ck5_2984
  | 15 => ck5_2985
  | 16 => ck5_2986
  | 17 => ck5_2987
  | 18 => ck5_2988
  | 19 => ck5_2989
  | 20 => ck5_2990
  | 21 => ck5_2991
  | 22 => ck5_2992
  | 23 => ck5_2993
  | 24 => ck5_2994
  | 25 => ck5_2995
  | 26 => ck5_2996
  | n + 27 => absurd hk (by omega)
theorem ck5g_111 : ∀ k, k < 27 → bl5 (2997 + k) = true := fun k hk => match k with
  | 0 => ck5_2997
  | 1 => ck5_2998
  | 2 => ck5_2999
  | 3 => ck5_3000
  | 4 => ck5_3001
  | 5 => ck5_3002
  | 6 => ck5_3003
  | 7 => ck5_3004
  | 8 => ck5_3005
  | 9 => ck5_3006
  | 10 => ck5_3007
  | 11 => ck5_3008
  | 12 => ck5_3009
  | 13 => ck5_3010
  | 14 => ck5_3011
  | 15 => ck5_3012
  | 16 => ck5_3013
  | 17 => ck5_3014
  | 18 => ck5_3015
  | 19 => ck5_3016
  | 20 => ck5_3017
  | 21 => ck5_3018
  | 22 => ck5_3019
  | 23 => ck5_3020
  | 24 => ck5_3021
  | 25 => ck5_3022
  | 26 => ck5_3023
  | n + 27 => absurd hk (by omega)
theorem ck5g_112 : ∀ k, k < 27 → bl5 (3024 + k) = true := fun k hk => match k with
  | 0 => ck5_3024
  | 1 => ck5_3025
  | 2 => ck5_3026
  | 3 => ck5_3027
  | 4 => ck5_3028
  | 5 => ck5_3029
  | 6 => ck5_3030
  | 7 => ck5_3031
  | 8 => ck5_3032
  | 9 => ck5_3033
  | 10 => ck5_3034
  | 11 => ck5_3035
  | 12 => ck5_3036
  | 13 => ck5_3037
  | 14 => ck5_3038
  | 15 => ck5_3039
  | 16 => ck5_3040
  | 17 => ck5_3041
  | 18 => ck5_3042
  | 19 => ck5_3043
  | 20 => ck5_3044
  | 21 => ck5_3045
  | 22 => ck5_3046
  | 23 => ck5_3047
  | 24 => ck5_3048
  | 25 => ck5_3049
  | 26 => ck5_3050
  | n + 27 => absurd hk (by omega)
theorem ck5g_113 : ∀ k, k < 27 → bl5 (3051 + k) = true := fun k hk => match k with
  | 0 => ck5_3051
  | 1 => ck5_3052
  | 2 => ck5_3053
  | 3 => ck5_3054
  | 4 => ck5_3055
  | 5 => ck5_3056
  | 6 => ck5_3057
  | 7 => ck5_3058
  | 8 => ck5_3059
  | 9 => ck5_3060
  | 10 => ck5_3061
  | 11 => ck5_3062
  | 12 => ck5_3063
  | 13 => ck5_3064
  | 14 => ck5_3065
  | 15 => ck5_3066
  | 16 => ck5_3067
  | 17 => ck5_3068
  | 18 => ck5_3069
  | 19 => ck5_3070
  | 20 => ck5_3071
  | 21 => ck5_3072
  | 22 => ck5_3073
  | 23 => ck5_3074
  | 24 => ck5_3075
  | 25 => ck5_3076
  | 26 => ck5_3077
  | n + 27 => absurd hk (by omega)
theorem ck5g_114 : ∀ k, k < 27 → bl5 (3078 + k) = true := fun k hk => match k with
  | 0 => ck5_3078
  | 1 => ck5_3079
  | 2 => ck5_3080
  | 3 => ck5_3081
  | 4 => ck5_3082
  | 5 => ck5_3083
  | 6 => ck5_3084
  | 7 => ck5_3085
  | 8 => ck5_3086
  | 9 => ck5_3087
  | 10 => ck5_3088
  | 11 => ck5_3089
  | 12 => ck5_3090
  | 13 => ck5_3091
  | 14 => ck5_3092
  | 15 => ck5_3093
  | 16 => ck5_3094
  | 17 => ck5_3095
  | 18 => ck5_3096
  | 19 => ck5_3097
  | 20 => ck5_3098
  | 21 => ck5_3099
  | 22 => ck5_3100
  | 23 => ck5_3101
  | 24 => ck5_3102
  | 25 => ck5_3103
  | 26 => ck5_3104
  | n + 27 => absurd hk (by omega)
theorem ck5g_115 : ∀ k, k < 27 → bl5 (3105 + k) = true := fun k hk => match k with
  | 0 => ck5_3105
  | 1 => ck5_3106
  | 2 => ck5_3107
  | 3 => ck5_3108
  | 4 => ck5_3109
  | 5 => ck5_3110
  | 6 => ck5_3111
  | 7 => ck5_3112
  | 8 => ck5_3113
  | 9 => ck5_3114
  | 10 => ck5_3115
  | 11 => ck5_3116
  | 12 => ck5_3117
  | 13 => ck5_3118
  | 14 => ck5_3119
  | 15 => ck5_3120
  | 16 => ck5_3121
  | 17 => ck5_3122
  | 18 => ck5_3123
  | 19 => ck5_3124
  | 20 => ck5_3125
  | 21 => ck5_3126
  | 22 => ck5_3127
  | 23 => ck5_3128
  | 24 => ck5_3129
  | 25 => ck5_3130
  | 26 => ck5_3131
  | n + 27 => absurd hk (by omega)
theorem ck5g_116 : ∀ k, k < 27 → bl5 (3132 + k) = true := fun k hk => match k with
  | 0 => ck5_3132
  | 1 => ck5_3133
  | 2 => ck5_3134
  | 3 => ck5_3135
  | 4 => ck5_3136
  | 5 => ck5_3137
  | 6 => ck5_3138
  | 7 => ck5_3139
  | 8 => ck5_3140
  | 9 => ck5_3141
  | 10 => ck5_3142
  | 11 => ck5_3143
  | 12 => ck5_3144
  | 13 => ck5_3145
  | 14 => ck5_3146
  | 15 => ck5_3147
  | 16 => ck5_3148
  | 17 => ck5_3149
  | 18 => ck5_3150
  | 19 => ck5_3151
  | 20 => ck5_3152
  | 21 => ck5_3153
  | 22 => ck5_3154
  | 23 => ck5_3155
  | 24 => ck5_3156
  | 25 => ck5_3157
  | 26 => ck5_3158
  | n + 27 => absurd hk (by omega)
theorem ck5g_117 : ∀ k, k < 27 → bl5 (3159 + k) = true := fun k hk => match k with
  | 0 => ck5_3159
  | 1 => ck5_3160
  | 2 => ck5_3161
  | 3 => ck5_3162
  | 4 => ck5_3163
  | 5 => ck5_3164
  | 6 => ck5_3165
  | 7 => ck5_3166
  | 8 => ck5_3167
  | 9 => ck5_3168
  | 10 => ck5_3169
  | 11 => ck5_3170
  | 12 => ck5_3171
  | 13 => ck5_3172
  | 14 => ck5_3173
  | 15 => ck5_3174
  | 16 => ck5_3175
  | 17 => ck5_3176
  | 18 => ck5_3177
  | 19 => ck5_3178
  | 20 => ck5_3179
  | 21 => ck5_3180
  | 22 => ck5_3181
  | 23 => ck5_3182
  | 24 => ck5_3183
  | 25 => ck5_3184
  | 26 => ck5_3185
  | n + 27 => absurd hk (by omega)
theorem ck5g_118 : ∀ k, k < 27 → bl5 (3186 + k) = true := fun k hk => match k with
  | 0 => ck5_3186
  | 1 => ck5_3187
  | 2 => ck5_3188
  | 3 => ck5_3189
  | 4 => ck5_3190
  | 5 => ck5_3191
  | 6 => ck5_3192
  | 7 => ck5_3193
  | 8 => ck5_3194
  | 9 => ck5_3195
  | 10 => ck5_3196
  | 11 => ck5_3197
  | 12 => ck5_3198
  | 13 => ck5_3199
  | 14 => ck5_3200
  | 15 => ck5_3201
  | 16 => ck5_3202
  | 17 => ck5_3203
  | 18 => ck5_3204
  | 19 => ck5_3205
  | 20 => ck5_3206
  | 21 => ck5_3207
  | 22 => ck5_3208
  | 23 => ck5_3209
  | 24 => ck5_3210
  | 25 => ck5_3211
  | 26 => ck5_3212
  | n + 27 => absurd hk (by omega)
theorem ck5g_119 : ∀ k, k < 27 → bl5 (3213 + k) = true := fun k hk => match k with
  | 0 => ck5_3213
  | 1 => ck5_3214
  | 2 => ck5_3215
  | 3 => ck5_3216
  | 4 => ck5_3217
  | 5 => ck5_3218
  | 6 => ck5_3219
  | 7 => ck5_3220
  | 8 => ck5_3221
  | 9 => ck5_3222
  | 10 => ck5_3223
  | 11 => ck5_3224
  | 12 => ck5_3225
  | 13 => ck5_3226
  | 14 => ck5_3227
  | 15 => ck5_3228
  | 16 => ck5_3229
  | 17 => ck5_3230
  | 18 => ck5_3231
  | 19 => ck5_3232
  | 20 => ck5_3233
  | 21 => ck5_3234
  | 22 => ck5_3235
  | 23 => ck5_3236
  | 24 => ck5_3237
  | 25 => ck5_3238
  | 26 => ck5_3239
  | n + 27 => absurd hk (by omega)
theorem ck5g_120 : ∀ k, k < 27 → bl5 (3240 + k) = true := fun k hk => match k with
  | 0 => ck5_3240
  | 1 => ck5_3241
  | 2 => ck5_3242
  | 3 => ck5_3243
  | 4 => ck5_3244
  | 5 => ck5_3245
  | 6 => ck5_3246
  | 7 => ck5_3247
  | 8 => ck5_3248
  | 9 => ck5_3249
  | 10 => ck5_3250
  | 11 => ck5_3251
  | 12 => ck5_3252
  | 13 => ck5_3253
  | 14 => ck5_3254
  | 15 => ck5_3255
  | 16 => ck5_3256
  | 17 => ck5_3257
  | 18 => ck5_3258
  | 19 => ck5_3259
  | 20 => ck5_3260
  | 21 => ck5_3261
  | 22 => ck5_3262
  | 23 => ck5_3263
  | 24 => ck5_3264
  | 25 => ck5_3265
  | 26 => ck5_3266
  | n + 27 => absurd hk (by omega)
theorem ck5g_121 : ∀ k, k < 27 → bl5 (3267 + k) = true := fun k hk => match k with
  | 0 => ck5_3267
  | 1 => ck5_3268
  | 2 => ck5_3269
  | 3 => ck5_3270
  | 4 => ck5_3271
  | 5 => ck5_3272
  | 6 => ck5_3273
  | 7 => ck5_3274
  | 8 => ck5_3275
  | 9 => ck5_3276
  | 10 => ck5_3277
  | 11 => ck5_3278
  | 12 => ck5_3279
  | 13 => ck5_3280
  | 14 => ck5_3281
  | 15 => ck5_3282
  | 16 => ck5_3283
  | 17 => ck5_3284
  | 18 => ck5_3285
  | 19 => ck5_3286
  | 20 => ck5_3287
  | 21 => ck5_3288
  | 22 => ck5_3289
  | 23 => ck5_3290
  | 24 => ck5_3291
  | 25 => ck5_3292
  | 26 => ck5_3293
  | n + 27 => absurd hk (by omega)
theorem ck5g_122 : ∀ k, k < 27 → bl5 (3294 + k) = true := fun k hk => match k with
  | 0 => ck5_3294
  | 1 => ck5_3295
  | 2 => ck5_3296
  | 3 => ck5_3297
  | 4 => ck5_3298
  | 5 => ck5_3299
  | 6 => ck5_3300
  | 7 => ck5_3301
  | 8 => ck5_3302
  | 9 => ck5_3303
  | 10 => ck5_3304
  | 11 => ck5_3305
  | 12 => ck5_3306
  | 13 => ck5_3307
  | 14 => ck5_3308
  | 15 => ck5_3309
  | 16 => ck5_3310
  | 17 => ck5_3311
  | 18 => ck5_3312
  | 19 => ck5_3313
  | 20 => ck5_3314
  | 21 => ck5_3315
  | 22 => ck5_3316
  | 23 => ck5_3317
  | 24 => ck5_3318
  | 25 => ck5_3319
  | 26 => ck5_3320
  | n + 27 => absurd hk (by omega)
theorem ck5g_123 : ∀ k, k < 27 → bl5 (3321 + k) = true := fun k hk => match k with
  | 0 => ck5_3321
  | 1 => ck5_3322
  | 2 => ck5_3323
  | 3 => ck5_3324
  | 4 => ck5_3325
  | 5 => ck5_3326
  | 6 => ck5_3327
  | 7 => ck5_3328
  | 8 => ck5_3329
  | 9 => ck5_3330
  | 10 => ck5_3331
  | 11 => ck5_3332
  | 12 => ck5_3333
  | 13 => ck5_3334
  | 14 => ck5_3335
  | 15 => ck5_3336
  | 16 => ck5_3337
  | 17 => ck5_3338
  | 18 => ck5_3339
  | 19 => ck5_3340
  | 20 => ck5_3341
  | 21 => ck5_3342
  | 22 => ck5_3343
  | 23 => ck5_3344
  | 24 => ck5_3345
  | 25 => ck5_3346
  | 26 => ck5_3347
  | n + 27 => absurd hk (by omega)
theorem ck5g_124 : ∀ k, k < 27 → bl5 (3348 + k) = true := fun k hk => match k with
  | 0 => ck5_3348
  | 1 => ck5_3349
  | 2 => ck5_3350
  | 3 => ck5_3351
  | 4 => ck5_3352
  | 5 => ck5_3353
  | 6 => ck5_3354
  | 7 => ck5_3355
  | 8 => ck5_3356
  | 9 => ck5_3357
  | 10 => ck5_3358
  | 11 => ck5_3359
  | 12 => ck5_3360
  | 13 => ck5_3361
  | 14 => ck5_3362
  | 15 => ck5_3363
  | 16 => ck5_3364
  | 17 => ck5_3365
  | 18 => ck5_3366
  | 19 => ck5_3367
  | 20 => ck5_3368
  | 21 => ck5_3369
  | 22 => ck5_3370
  | 23 => ck5_3371
  | 24 => ck5_3372
  | 25 => ck5_3373
  | 26 => ck5_3374
  | n + 27 => absurd hk (by omega)
theorem ck5g_125 : ∀ k, k < 27 → bl5 (3375 + k) = true := fun k hk => match k with
  | 0 => ck5_3375
  | 1 => ck5_3376
  | 2 => ck5_3377
  | 3 => ck5_3378
  | 4 => ck5_3379
  | 5 => ck5_3380
  | 6 => ck5_3381
  | 7 => ck5_3382
  | 8 => ck5_3383
  | 9 => ck5_3384
  | 10 => ck5_3385
  | 11 => ck5_3386
  | 12 => ck5_3387
  | 13 => ck5_3388
  | 14 => ck5_3389
  | 15 => ck5_3390
  | 16 => ck5_3391
  | 17 => ck5_3392
  | 18 => ck5_3393
  | 19 => ck5_3394
  | 20 => ck5_3395
  | 21 => ck5_3396
  | 22 => ck5_3397
  | 23 => ck5_3398
  | 24 => ck5_3399
  | 25 => ck5_3400
  | 26 => ck5_3401
  | n + 27 => absurd hk (by omega)
theorem ck5g_126 : ∀ k, k < 27 → bl5 (3402 + k) = true := fun k hk => match k with
  | 0 => ck5_3402
  | 1 => ck5_3403
  | 2 => ck5_3404
  | 3 => ck5_3405
  | 4 => ck5_3406
  | 5 => ck5_3407
  | 6 => ck5_3408
  | 7 => ck5_3409
  | 8 => ck5_3410
  | 9 => ck5_3411
  | 10 => ck5_3412
  | 11 => ck5_3413
  | 12 => ck5_3414
  | 13 => ck5_3415
  | 14 => ck5_3416
  | 15 => ck5_3417
  | 16 => ck5_3418
  | 17 => ck5_3419
  | 18 => ck5_3420
  | 19 => ck5_3421
  | 20 => ck5_3422
  | 21 => ck5_3423
  | 22 => ck5_3424
  | 23 => ck5_3425
  | 24 => ck5_3426
  | 25 => ck5_3427
  | 26 => ck5_3428
  | n + 27 => absurd hk (by omega)
theorem ck5g_127 : ∀ k, k < 27 → bl5 (3429 + k) = true := fun k hk => match k with
  | 0 => ck5_3429
  | 1 => ck5_3430
  | 2 => ck5_3431
  | 3 => ck5_3432
  | 4 => ck5_3433
  | 5 => ck5_3434
  | 6 => ck5_3435
  | 7 => ck5_3436
  | 8 => ck5_3437
  | 9 => ck5_3438
  | 10 => ck5_3439
  | 11 => ck5_3440
  | 12 => ck5_3441
  | 13 => ck5_3442
  | 14 => ck5_3443
  | 15 => ck5_3444
  | 16 => ck5_3445
  | 17 => ck5_3446
  | 18 => ck5_3447
  | 19 => ck5_3448
  | 20 => ck5_3449
  | 21 => ck5_3450
  | 22 => ck5_3451
  | 23 => ck5_3452
  | 24 => ck5_3453
  | 25 => ck5_3454
  | 26 => ck5_3455
  | n + 27 => absurd hk (by omega)
theorem ck5g_128 : ∀ k, k < 27 → bl5 (3456 + k) = true := fun k hk => match k with
  | 0 => ck5_3456
  | 1 => ck5_3457
  | 2 => ck5_3458
  | 3 => ck5_3459
  | 4 => ck5_3460
  | 5 => ck5_3461
  | 6 => ck5_3462
  | 7 => ck5_3463
  | 8 => ck5_3464
  | 9 => ck5_3465
  | 10 => ck5_3466
  | 11 => ck5_3467
  | 12 => ck5_3468
  | 13 => ck5_3469
  | 14 => ck5_3470
  | 15 => ck5_3471
  | 16 => ck5_3472
  | 17 => ck5_3473
  | 18 => ck5_3474
  | 19 => ck5_3475
  | 20 => ck5_3476
  | 21 => ck5_3477
  | 22 => ck5_3478
  | 23 => ck5_3479
  | 24 => ck5_3480
  | 25 => ck5_3481
  | 26 => ck5_3482
  | n + 27 => absurd hk (by omega)
theorem ck5g_129 : ∀ k, k < 27 → bl5 (3483 + k) = true := fun k hk => match k with
  | 0 => ck5_3483
  | 1 => ck5_3484
  | 2 => ck5_3485
  | 3 => ck5_3486
  | 4 => ck5_3487
  | 5 => ck5_3488
  | 6 => ck5_3489
  | 7 => ck5_3490
  | 8 => ck5_3491
  | 9 => ck5_3492
  | 10 => ck5_3493
  | 11 => ck5_3494
  | 12 => ck5_3495
  | 13 => ck5_3496
  | 14 => ck5_3497
  | 15 => ck5_3498
  | 16 => ck5_3499
  | 17 => ck5_3500
  | 18 => ck5_3501
  | 19 => ck5_3502
  | 20 => ck5_3503
  | 21 => ck5_3504
  | 22 => ck5_3505
  | 23 => ck5_3506
  | 24 => ck5_3507
  | 25 => ck5_3508
  | 26 => ck5_3509
  | n + 27 => absurd hk (by omega)
theorem ck5g_130 : ∀ k, k < 27 → bl5 (3510 + k) = true := fun k hk => match k with
  | 0 => ck5_3510
  | 1 => ck5_3511
  | 2 => ck5_3512
  | 3 => ck5_3513
  | 4 => ck5_3514
  | 5 => ck5_3515
  | 6 => ck5_3516
  | 7 => ck5_3517
  | 8 => ck5_3518
  | 9 => ck5_3519
  | 10 => ck5_3520
  | 11 => ck5_3521
  | 12 => ck5_3522
  | 13 => ck5_3523
  | 14 => ck5_3524
  | 15 => ck5_3525
  | 16 => ck5_3526
  | 17 => ck5_3527
  | 18 => ck5_3528
  | 19 => ck5_3529
  | 20 => ck5_3530
  | 21 => ck5_3531
  | 22 => ck5_3532
  | 23 => ck5_3533
  | 24 => ck5_3534
  | 25 => ck5_3535
  | 26 => ck5_3536
  | n + 27 => absurd hk (by omega)
theorem ck5g_131 : ∀ k, k < 27 → bl5 (3537 + k) = true := fun k hk => match k with
  | 0 => ck5_3537
  | 1 => ck5_3538
  | 2 => ck5_3539
  | 3 => ck5_3540
  | 4 => ck5_3541
  | 5 => ck5_3542
  | 6 => ck5_3543
  | 7 => ck5_3544
  | 8 => ck5_3545
  | 9 => ck5_3546
  | 10 => ck5_3547
  | 11 => ck5_3548
  | 12 => ck5_3549
  | 13 => ck5_3550
  | 14 => ck5_3551
  | 15 => ck5_3552
  | 16 => ck5_3553
  | 17 => ck5_3554
  | 18 => ck5_3555
  | 19 => ck5_3556
  | 20 => ck5_3557
  | 21 => ck5_3558
  | 22 => ck5_3559
  | 23 => ck5_3560
  | 24 => ck5_3561
  | 25 => ck5_3562
  | 26 => ck5_3563
  | n + 27 => absurd hk (by omega)
theorem ck5g_132 : ∀ k, k < 27 → bl5 (3564 + k) = true := fun k hk => match k with
  | 0 => ck5_3564
  | 1 => ck5_3565
  | 2 => ck5_3566
  | 3 => ck5_3567
  | 4 => ck5_3568
  | 5 => ck5_3569
  | 6 => ck5_3570
  | 7 => ck5_3571
  | 8 => ck5_3572
  | 9 => ck5_3573
  | 10 => ck5_3574
  | 11 => ck5_3575
  | 12 => ck5_3576
  | 13 => ck5_3577
  | 14 => ck5_3578
  | 15 => ck5_3579
  | 16 => ck5_3580
  | 17 => ck5_3581
  | 18 => ck5_3582
  | 19 => ck5_3583
  | 20 => ck5_3584
  | 21 => ck5_3585
  | 22 => ck5_3586
  | 23 => ck5_3587
  | 24 => ck5_3588
  | 25 => ck5_3589
  | 26 => ck5_3590
  | n + 27 => absurd hk (by omega)
theorem ck5g_133 : ∀ k, k < 27 → bl5 (3591 + k) = true := fun k hk => match k with
  | 0 => ck5_3591
  | 1 => ck5_3592
  | 2 => ck5_3593
  | 3 => ck5_3594
  | 4 => ck5_3595
  | 5 => ck5_3596
  | 6 => ck5_3597
  | 7 => ck5_3598
  | 8 => ck5_3599
  | 9 => ck5_3600
  | 10 => ck5_3601
  | 11 => ck5_3602
  | 12 => ck5_3603
  | 13 => ck5_3604
  | 14 => ck5_3605
  | 15 => ck5_3606
  | 16 => ck5_3607
  | 17 => ck5_3608
  | 18 => ck5_3609
  | 19 => ck5_3610
  | 20 => ck5_3611
  | 21 => ck5_3612
  | 22 => ck5_3613
  | 23 => ck5_3614
  | 24 => ck5_3615
  | 25 => ck5_3616
  | 26 => ck5_3617
  | n + 27 => absurd hk (by omega)
theorem ck5g_134 : ∀ k, k < 27 → bl5 (3618 + k) = true := fun k hk => match k with
  | 0 => ck5_3618
  | 1 => ck5_3619
  | 2 => ck5_3620
  | 3 => ck5_3621
  | 4 => ck5_3622
  | 5 => ck5_3623
  | 6 => ck5_3624
  | 7 => ck5_3625
  | 8 => ck5_3626
  | 9 => ck5_3627
  | 10 => ck5_3628
  | 11 => ck5_3629
  | 12 => ck5_3630
  | 13 => ck5_3631
  | 14 => ck5_3632
  | 15 => ck5_3633
  | 16 => ck5_3634
  | 17 => ck5_3635
  | 18 => ck5_3636
  | 19 => ck5_3637
  | 20 => ck5_3638
  | 21 => ck5_3639
  | 22 => ck5_3640
  | 23 => ck5_3641
  | 24 => ck5_3642
  | 25 => ck5_3643
  | 26 => ck5_3644
  | n + 27 => absurd hk (by omega)
theorem ck5g_135 : ∀ k, k < 27 → bl5 (3645 + k) = true := fun k hk => match k with
  | 0 => ck5_3645
  | 1 => ck5_3646
  | 2 => ck5_3647
  | 3 => ck5_3648
  | 4 => ck5_3649
  | 5 => ck5_3650
  | 6 => ck5_3651
  | 7 => ck5_3652
  | 8 => ck5_3653
  | 9 => ck5_3654
  | 10 => ck5_3655
  | 11 => ck5_3656
  | 12 => ck5_3657
  | 13 => ck5_3658
  | 14 => ck5_3659
  | 15 => ck5_3660
  | 16 => ck5_3661
  | 17 => ck5_3662
  | 18 => ck5_3663
  | 19 => ck5_3664
  | 20 => ck5_3665
  | 21 => ck5_3666
  | 22 => ck5_3667
  | 23 => ck5_3668
  | 24 => ck5_3669
  | 25 => ck5_3670
  | 26 => ck5_3671
  | n + 27 => absurd hk (by omega)
theorem ck5g_136 : ∀ k, k < 27 → bl5 (3672 + k) = true := fun k hk => match k with
  | 0 => ck5_3672
  | 1 => ck5_3673
  | 2 => ck5_3674
  | 3 => ck5_3675
  | 4 => ck5_3676
  | 5 => ck5_3677
  | 6 => ck5_3678
  | 7 => ck5_3679
  | 8 => ck5_3680
  | 9 => ck5_3681
  | 10 => ck5_3682
  | 11 => ck5_3683
  | 12 => ck5_3684
  | 13 => ck5_3685
  | 14 => ck5_3686
  | 15 => ck5_3687
  | 16 => ck5_3688
  | 17 => ck5_3689
  | 18 => ck5_3690
  | 19 => ck5_3691
  | 20 => ck5_3692
  | 21 => ck5_3693
  | 22 => ck5_3694
  | 23 => ck5_3695
  | 24 => ck5_3696
  | 25 => ck5_3697
  | 26 => ck5_3698
  | n + 27 => absurd hk (by omega)
theorem ck5g_137 : ∀ k, k < 27 → bl5 (3699 + k) = true := fun k hk => match k with
  | 0 => ck5_3699
  | 1 => ck5_3700
  | 2 => ck5_3701
  | 3 => ck5_3702
  | 4 => ck5_3703
  | 5 => ck5_3704
  | 6 => ck5_3705
  | 7 => ck5_3706
  | 8 => ck5_3707
  | 9 => ck5_3708
  | 10 => ck5_3709
  | 11 => ck5_3710
  | 12 => ck5_3711
  | 13 => ck5_3712
  | 14 => ck5_3713
  | 15 => ck5_3714
  | 16 => ck5_3715
  | 17 => ck5_3716
  | 18 => ck5_3717
  | 19 => ck5_3718
  | 20 => ck5_3719
  | 21 => ck5_3720
  | 22 => ck5_3721
  | 23 => ck5_3722
  | 24 => ck5_3723
  | 25 => ck5_3724
  | 26 => ck5_3725
  | n + 27 => absurd hk (by omega)
theorem ck5g_138 : ∀ k, k < 27 → bl5 (3726 + k) = true := fun k hk => match k with
  | 0 => ck5_3726
  | 1 => ck5_3727
  | 2 => ck5_3728
  | 3 => ck5_3729
  | 4 => ck5_3730
  | 5 => ck5_3731
  | 6 => ck5_3732
  | 7 => ck5_3733
  | 8 => ck5_3734
  | 9 => ck5_3735
  | 10 => ck5_3736
  | 11 => ck5_3737
  | 12 => ck5_3738
  | 13 => ck5_3739
  | 14 => ck5_3740
  | 15 => ck5_3741
  | 16 => ck5_3742
  | 17 => ck5_3743
  | 18 => ck5_3744
  | 19 => ck5_3745
  | 20 => ck5_3746
  | 21 => ck5_3747
  | 22 => ck5_3748
  | 23 => ck5_3749
  | 24 => ck5_3750
  | 25 => ck5_3751
  | 26 => ck5_3752
  | n + 27 => absurd hk (by omega)
theorem ck5g_139 : ∀ k, k < 27 → bl5 (3753 + k) = true := fun k hk => match k with
  | 0 => ck5_3753
  | 1 => ck5_3754
  | 2 => ck5_3755
  | 3 => ck5_3756
  | 4 => ck5_3757
  | 5 => ck5_3758
  | 6 => ck5_3759
  | 7 => ck5_3760
  | 8 => ck5_3761
  | 9 => ck5_3762
  | 10 => ck5_3763
  | 11 => ck5_3764
  | 12 => ck5_3765
  | 13 => ck5_3766
  | 14 => ck5_3767
  | 15 => ck5_3768
  | 16 => ck5_3769
  | 17 => ck5_3770
  | 18 => ck5_3771
  | 19 => ck5_3772
  | 20 => ck5_3773
  | 21 => ck5_3774
  | 22 => ck5_3775
  | 23 => ck5_3776
  | 24 => ck5_3777
  | 25 => ck5_3778
  | 26 => ck5_3779
  | n + 27 => absurd hk (by omega)
theorem ck5g_140 : ∀ k, k < 27 → bl5 (3780 + k) = true := fun k hk => match k with
  | 0 => ck5_3780
  | 1 => ck5_3781
  | 2 => ck5_3782
  | 3 => ck5_3783
  | 4 => ck5_3784
  | 5 => ck5_3785
  | 6 => ck5_3786
  | 7 => ck5_3787
  | 8 => ck5_3788
  | 9 => ck5_3789
  | 10 => ck5_3790
  | 11 => ck5_3791
  | 12 => ck5_3792
  | 13 => ck5_3793
  | 14 => ck5_3794
  | 15 => ck5_3795
  | 16 => ck5_3796
  | 17 => ck5_3797
  | 18 => ck5_3798
  | 19 => ck5_3799
  | 20 => ck5_3800
  | 21 => ck5_3801
  | 22 => ck5_3802
  | 23 => ck5_3803
  | 24 => ck5_3804
  | 25 => ck5_3805
  | 26 => ck5_3806
  | n + 27 => absurd hk (by omega)
theorem ck5g_141 : ∀ k, k < 27 → bl5 (3807 + k) = true := fun k hk => match k with
  | 0 => ck5_3807
  | 1 => ck5_3808
  | 2 => ck5_3809
  | 3 => ck5_3810
  | 4 => ck5_3811
  | 5 => ck5_3812
  | 6 => ck5_3813
  | 7 => ck5_3814
  | 8 => ck5_3815
  | 9 => ck5_3816
  | 10 => ck5_3817
  | 11 => ck5_3818
  | 12 => ck5_3819
  | 13 => ck5_3820
  | 14 => ck5_3821
  | 15 => ck5_3822
  | 16 => ck5_3823
  | 17 => ck5_3824
  | 18 => ck5_3825
  | 19 => ck5_3826
  | 20 => ck5_3827
  | 21 => ck5_3828
  | 22 => ck5_3829
  | 23 => ck5_3830
  | 24 => ck5_3831
  | 25 => ck5_3832
  | 26 => ck5_3833
  | n + 27 => absurd hk (by omega)
theorem ck5g_142 : ∀ k, k < 27 → bl5 (3834 + k) = true := fun k hk => match k with
  | 0 => ck5_3834
  | 1 => ck5_3835
  | 2 => ck5_3836
  | 3 => ck5_3837
  | 4 => ck5_3838
  | 5 => ck5_3839
  | 6 => ck5_3840
  | 7 => ck5_3841
  | 8 => ck5_3842
  | 9 => ck5_3843
  | 10 => ck5_3844
  | 11 => ck5_3845
  | 12 => ck5_3846
  | 13 => ck5_3847
  | 14 => ck5_3848
  | 15 => ck5_3849
  | 16 => ck5_3850
  | 17 => ck5_3851
  | 18 => ck5_3852
  | 19 => ck5_3853
  | 20 => ck5_3854
  | 21 => ck5_3855
  | 22 => ck5_3856
  | 23 => ck5_3857
  | 24 => ck5_3858
  | 25 => ck5_3859
  | 26 => ck5_3860
  | n + 27 => absurd hk (by omega)
theorem ck5g_143 : ∀ k, k < 27 → bl5 (3861 + k) = true := fun k hk => match k with
  | 0 => ck5_3861
  | 1 => ck5_3862
  | 2 => ck5_3863
  | 3 => ck5_3864
  | 4 => ck5_3865
  | 5 => ck5_3866
  | 6 => ck5_3867
  | 7 => ck5_3868
  | 8 => ck5_3869
  | 9 => ck5_3870
  | 10 => ck5_3871
  | 11 => ck5_3872
  | 12 => ck5_3873
  | 13 => ck5_3874
  | 14 => ck5_3875
  | 15 => ck5_3876
  | 16 => ck5_3877
  | 17 => ck5_3878
  | 18 => ck5_3879
  | 19 => ck5_3880
  | 20 => ck5_3881
  | 21 => ck5_3882
  | 22 => ck5_3883
  | 23 => ck5_3884
  | 24 => ck5_3885
  | 25 => ck5_3886
  | 26 => ck5_3887
  | n + 27 => absurd hk (by omega)
theorem ck5g_144 : ∀ k, k < 27 → bl5 (3888 + k) = true := fun k hk => match k with
  | 0 => ck5_3888
  | 1 => ck5_3889
  | 2 => ck5_3890
  | 3 => ck5_3891
  | 4 => ck5_3892
  | 5 => ck5_3893
  | 6 => ck5_3894
  | 7 => ck5_3895
  | 8 => ck5_3896
  | 9 => ck5_3897
  | 10 => ck5_3898
  | 11 => ck5_3899
  | 12 => ck5_3900
  | 13 => ck5_3901
  | 14 => ck5_3902
  | 15 => ck5_3903
  | 16 => ck5_3904
  | 17 => ck5_3905
  | 18 => ck5_3906
  | 19 => ck5_3907
  | 20 => ck5_3908
  | 21 => ck5_3909
  | 22 => ck5_3910
  | 23 => ck5_3911
  | 24 => ck5_3912
  | 25 => ck5_3913
  | 26 => ck5_3914
  | n + 27 => absurd hk (by omega)
theorem ck5g_145 : ∀ k, k < 27 → bl5 (3915 + k) = true := fun k hk => match k with
  | 0 => ck5_3915
  | 1 => ck5_3916
  | 2 => ck5_3917
  | 3 => ck5_3918
  | 4 => ck5_3919
  | 5 => ck5_3920
  | 6 => ck5_3921
  | 7 => ck5_3922
  | 8 => ck5_3923
  | 9 => ck5_3924
  | 10 => ck5_3925
  | 11 => ck5_3926
  | 12 => ck5_3927
  | 13 => ck5_3928
  | 14 => ck5_3929
  | 15 => ck5_3930
  | 16 => ck5_3931
  | 17 => ck5_3932
  | 18 => ck5_3933
  | 19 => ck5_3934
  | 20 => ck5_3935
  | 21 => ck5_3936
  | 22 => ck5_3937
  | 23 => ck5_3938
  | 24 => ck5_3939
  | 25 => ck5_3940
  | 26 => ck5_3941
  | n + 27 => absurd hk (by omega)
theorem ck5g_146 : ∀ k, k < 27 → bl5 (3942 + k) = true := fun k hk => match k with
  | 0 => ck5_3942
  | 1 => ck5_3943
  | 2 => ck5_3944
  | 3 => ck5_3945
  | 4 => ck5_3946
  | 5 => ck5_3947
  | 6 => ck5_3948
  | 7 => ck5_3949
  | 8 => ck5_3950
  | 9 => ck5_3951
  | 10 => ck5_3952
  | 11 => ck5_3953
  | 12 => ck5_3954
  | 13 => ck5_3955
  | 14 => ck5_3956
  | 15 => ck5_3957
  | 16 => ck5_3958
  | 17 => ck5_3959
  | 18 => ck5_3960
  | 19 => ck5_3961
  | 20 => ck5_3962
  | 21 => ck5_3963
  | 22 => ck5_3964
  | 23 => ck5_3965
  | 24 => ck5_3966
  | 25 => ck5_3967
  | 26 => ck5_3968
  | n + 27 => absurd hk (by omega)
theorem ck5g_147 : ∀ k, k < 27 → bl5 (3969 + k) = true := fun k hk => match k with
  | 0 => ck5_3969
  | 1 => ck5_3970
  | 2 => ck5_3971
  | 3 => ck5_3972
  | 4 => ck5_3973
  | 5 => ck5_3974
  | 6 => ck5_3975
  | 7 => ck5_3976
  | 8 => ck5_3977
  | 9 => ck5_3978
  | 10 => ck5_3979
  | 11 => ck5_3980
  | 12 => ck5_3981
  | 13 => ck5_3982
  | 14 => ck5_3983
  | 15 => ck5_3984
  | 16 => ck5_3985
  | 17 => ck5_3986
  | 18 => ck5_3987
  | 19 => ck5_3988
  | 20 => ck5_3989
  | 21 => ck5_3990
  | 22 => ck5_3991
  | 23 => ck5_3992
  | 24 => ck5_3993
  | 25 => ck5_3994
  | 26 => ck5_3995
  | n + 27 => absurd hk (by omega)
theorem ck5g_148 : ∀ k, k < 27 → bl5 (3996 + k) = true := fun k hk => match k with
  | 0 => ck5_3996
  | 1 => ck5_3997
  | 2 => ck5_3998
  | 3 => ck5_3999
  | 4 => ck5_4000
  | 5 => ck5_4001
  | 6 => ck5_4002
  | 7 => ck5_4003
  | 8 => ck5_4004
  | 9 => ck5_4005
  | 10 => ck5_4006
  | 11 => ck5_4007
  | 12 => ck5_4008
  | 13 => ck5_4009
  | 14 => ck5_4010
  | 15 => ck5_4011
  | 16 => ck5_4012
  | 17 => ck5_4013
  | 18 => ck5_4014
  | 19 => ck5_4015
  | 20 => ck5_4016
  | 21 => ck5_4017
  | 22 => ck5_4018
  | 23 => ck5_4019
  | 24 => ck5_4020
  | 25 => ck5_4021
  | 26 => ck5_4022
  | n + 27 => absurd hk (by omega)
theorem ck5g_149 : ∀ k, k < 27 → bl5 (4023 + k) = true := fun k hk => match k with
  | 0 => ck5_4023
  | 1 => ck5_4024
  | 2 => ck5_4025
  | 3 => ck5_4026
  | 4 => ck5_4027
  | 5 => ck5_4028
  | 6 => ck5_4029
  | 7 => ck5_4030
  | 8 => ck5_4031
  | 9 => ck5_4032
  | 10 => ck5_4033
  | 11 => ck5_4034
  | 12 => ck5_4035
  | 13 => ck5_4036
  | 14 => ck5_4037
  | 15 => ck5_4038
  | 16 => ck5_4039
  | 17 => ck5_4040
  | 18 => ck5_4041
  | 19 => ck5_4042
  | 20 => ck5_4043
  | 21 => ck5_4044
  | 22 => ck5_4045
  | 23 => ck5_4046
  | 24 => ck5_4047
  | 25 => ck5_4048
  | 26 => ck5_4049
  | n + 27 => absurd hk (by omega)
theorem ck5g_150 : ∀ k, k < 27 → bl5 (4050 + k) = true := fun k hk => match k with
  | 0 => ck5_4050
  | 1 => ck5_4051
  | 2 => ck5_4052
  | 3 => ck5_4053
  | 4 => ck5_4054
  | 5 => ck5_4055
  | 6 => ck5_4056
  | 7 => ck5_4057
  | 8 => ck5_4058
  | 9 => ck5_4059
  | 10 => ck5_4060
  | 11 => ck5_4061
  | 12 => ck5_4062
  | 13 => ck5_4063
  | 14 => ck5_4064
  | 15 => ck5_4065
  | 16 => ck5_4066
  | 17 => ck5_4067
  | 18 => ck5_4068
  | 19 => ck5_4069
  | 20 => ck5_4070
  | 21 => ck5_4071
  | 22 => ck5_4072
  | 23 => ck5_4073
  | 24 => ck5_4074
  | 25 => ck5_4075
  | 26 => ck5_4076
  | n + 27 => absurd hk (by omega)
theorem ck5g_151 : ∀ k, k < 27 → bl5 (4077 + k) = true := fun k hk => match k with
  | 0 => ck5_4077
  | 1 => ck5_4078
  | 2 => ck5_4079
  | 3 => ck5_4080
  | 4 => ck5_4081
  | 5 => ck5_4082
  | 6 => ck5_4083
  | 7 => ck5_4084
  | 8 => ck5_4085
  | 9 => ck5_4086
  | 10 => ck5_4087
  | 11 => ck5_4088
  | 12 => ck5_4089
  | 13 => ck5_4090
  | 14 => ck5_4091
  | 15 => ck5_4092
  | 16 => ck5_4093
  | 17 => ck5_4094
  | 18 => ck5_4095
  | 19 => ck5_4096
  | 20 => ck5_4097
  | 21 => ck5_4098
  | 22 => ck5_4099
  | 23 => ck5_4100
  | 24 => ck5_4101
  | 25 => ck5_4102
  | 26 => ck5_4103
  | n + 27 => absurd hk (by omega)
theorem ck5g_152 : ∀ k, k < 27 → bl5 (4104 + k) = true := fun k hk => match k with
  | 0 => ck5_4104
  | 1 => ck5_4105
  | 2 => ck5_4106
  | 3 => ck5_4107
  | 4 => ck5_4108
  | 5 => ck5_4109
  | 6 => ck5_4110
  | 7 => ck5_4111
  | 8 => ck5_4112
  | 9 => ck5_4113
  | 10 => ck5_4114
  | 11 => ck5_4115
  | 12 => ck5_4116
  | 13 => ck5_4117
  | 14 => ck5_4118
  | 15 => ck5_4119
  | 16 => ck5_4120
  | 17 => ck5_4121
  | 18 => ck5_4122
  | 19 => ck5_4123
  | 20 => ck5_4124
  | 21 => ck5_4125
  | 22 => ck5_4126
  | 23 => ck5_4127
  | 24 => ck5_4128
  | 25 => ck5_4129
  | 26 => ck5_4130
  | n + 27 => absurd hk (by omega)
theorem ck5g_153 : ∀ k, k < 27 → bl5 (4131 + k) = true := fun k hk => match k with
  | 0 => ck5_4131
  | 1 => ck5_4132
  | 2 => ck5_4133
  | 3 => ck5_4134
  | 4 => ck5_4135
  | 5 => ck5_4136
  | 6 => ck5_4137
  | 7 => ck5_4138
  | 8 => ck5_4139
  | 9 => ck5_4140
  | 10 => ck5_4141
  | 11 => ck5_4142
  | 12 => ck5_4143
  | 13 => ck5_4144
  | 14 => ck5_4145
  | 15 => ck5_4146
  | 16 => ck5_4147
  | 17 => ck5_4148
  | 18 => ck5_4149
  | 19 => ck5_4150
  | 20 => ck5_4151
  | 21 => ck5_4152
  | 22 => ck5_4153
  | 23 => ck5_4154
  | 24 => ck5_4155
  | 25 => ck5_4156
  | 26 => ck5_4157
  | n + 27 => absurd hk (by omega)
theorem ck5g_154 : ∀ k, k < 27 → bl5 (4158 + k) = true := fun k hk => match k with
  | 0 => ck5_4158
  | 1 => ck5_4159
  | 2 => ck5_4160
  | 3 => ck5_4161
  | 4 => ck5_4162
  | 5 => ck5_4163
  | 6 => ck5_4164
  | 7 => ck5_4165
  | 8 => ck5_4166
  | 9 => ck5_4167
  | 10 => ck5_4168
  | 11 => ck5_4169
  | 12 => ck5_4170
  | 13 => ck5_4171
  | 14 => ck5_4172
  | 15 => ck5_4173
  | 16 => ck5_4174
  | 17 => ck5_4175
  | 18 => ck5_4176
  | 19 => ck5_4177
  | 20 => ck5_4178
  | 21 => ck5_4179
  | 22 => ck5_4180
  | 23 => ck5_4181
  | 24 => ck5_4182
  | 25 => ck5_4183
  | 26 => ck5_4184
  | n + 27 => absurd hk (by omega)
theorem ck5g_155 : ∀ k, k < 27 → bl5 (4185 + k) = true := fun k hk => match k with
  | 0 => ck5_4185
  | 1 => ck5_4186
  | 2 => ck5_4187
  | 3 => ck5_4188
  | 4 => ck5_4189
  | 5 => ck5_4190
  | 6 => ck5_4191
  | 7 => ck5_4192
  | 8 => ck5_4193
  | 9 => ck5_4194
  | 10 => ck5_4195
  | 11 => ck5_4196
  | 12 => ck5_4197
  | 13 => ck5_4198
  | 14 => ck5_4199
  | 15 => ck5_4200
  | 16 => ck5_4201
  | 17 => ck5_4202
  | 18 => ck5_4203
  | 19 => ck5_4204
  | 20 => ck5_4205
  | 21 => ck5_4206
  | 22 => ck5_4207
  | 23 => ck5_4208
  | 24 => ck5_4209
  | 25 => ck5_4210
  | 26 => ck5_4211
  | n + 27 => absurd hk (by omega)
theorem ck5g_156 : ∀ k, k < 27 → bl5 (4212 + k) = true := fun k hk => match k with
  | 0 => ck5_4212
  | 1 => ck5_4213
  | 2 => ck5_4214
  | 3 => ck5_4215
  | 4 => ck5_4216
  | 5 => ck5_4217
  | 6 => ck5_4218
  | 7 => ck5_4219
  | 8 => ck5_4220
  | 9 => ck5_4221
  | 10 => ck5_4222
  | 11 => ck5_4223
  | 12 => ck5_4224
  | 13 => ck5_4225
  | 14 => ck5_4226
  | 15 => ck5_4227
  | 16 => ck5_4228
  | 17 => ck5_4229
  | 18 => ck5_4230
  | 19 => ck5_4231
  | 20 => ck5_4232
  | 21 => ck5_4233
  | 22 => ck5_4234
  | 23 => ck5_4235
  | 24 => ck5_4236
  | 25 => ck5_4237
  | 26 => ck5_4238
  | n + 27 => absurd hk (by omega)
theorem ck5g_157 : ∀ k, k < 27 → bl5 (4239 + k) = true := fun k hk => match k with
  | 0 => ck5_4239
  | 1 => ck5_4240
  | 2 => ck5_4241
  | 3 => ck5_4242
  | 4 => ck5_4243
  | 5 => ck5_4244
  | 6 => ck5_4245
  | 7 => ck5_4246
  | 8 => ck5_4247
  | 9 => ck5_4248
  | 10 => ck5_4249
  | 11 => ck5_4250
  | 12 => ck5_4251
  | 13 => ck5_4252
  | 14 => ck5_4253
  | 15 => ck5_4254
  | 16 => ck5_4255
  | 17 => ck5_4256
  | 18 => ck5_4257
  | 19 => ck5_4258
  | 20 => ck5_4259
  | 21 => ck5_4260
  | 22 => ck5_4261
  | 23 => ck5_4262
  | 24 => ck5_4263
  | 25 => ck5_4264
  | 26 => ck5_4265
  | n + 27 => absurd hk (by omega)
theorem ck5g_158 : ∀ k, k < 27 → bl5 (4266 + k) = true := fun k hk => match k with
  | 0 => ck5_4266
  | 1 => ck5_4267
  | 2 => ck5_4268
  | 3 => ck5_4269
  | 4 => ck5_4270
  | 5 => ck5_4271
  | 6 => ck5_4272
  | 7 => ck5_4273
  | 8 => ck5_4274
  | 9 => ck5_4275
  | 10 => ck5_4276
  | 11 => ck5_4277
  | 12 => ck5_4278
  | 13 => ck5_4279
  | 14 => ck5_4280
  | 15 => ck5_4281
  | 16 => ck5_4282
  | 17 => ck5_4283
  | 18 => ck5_4284
  | 19 => ck5_4285
  | 20 => ck5_4286
  | 21 => ck5_4287
  | 22 => ck5_4288
  | 23 => ck5_4289
  | 24 => ck5_4290
  | 25 => ck5_4291
  | 26 => ck5_4292
  | n + 27 => absurd hk (by omega)
theorem ck5g_159 : ∀ k, k < 27 → bl5 (4293 + k) = true := fun k hk => match k with
  | 0 => ck5_4293
  | 1 => ck5_4294
  | 2 => ck5_4295
  | 3 => ck5_4296
  | 4 => ck5_4297
  | 5 => ck5_4298
  | 6 => ck5_4299
  | 7 => ck5_4300
  | 8 => ck5_4301
  | 9 => ck5_4302
  | 10 => ck5_4303
  | 11 => ck5_4304
  | 12 => ck5_4305
  | 13 => ck5_4306
  | 14 => ck5_4307
  | 15 => ck5_4308
  | 16 => ck5_4309
  | 17 => ck5_4310
  | 18 => ck5_4311
  | 19 => ck5_4312
  | 20 => ck5_4313
  | 21 => ck5_4314
  | 22 => ck5_4315
  | 23 => ck5_4316
  | 24 => ck5_4317
  | 25 => ck5_4318
  | 26 => ck5_4319
  | n + 27 => absurd hk (by omega)
theorem ck5g_160 : ∀ k, k < 27 → bl5 (4320 + k) = true := fun k hk => match k with
  | 0 => ck5_4320
  | 1 => ck5_4321
  | 2 => ck5_4322
  | 3 => ck5_4323
  | 4 => ck5_4324
  | 5 => ck5_4325
  | 6 => ck5_4326
  | 7 => ck5_4327
  | 8 => ck5_4328
  | 9 => ck5_4329
  | 10 => ck5_4330
  | 11 => ck5_4331
  | 12 => ck5_4332
  | 13 => ck5_4333
  | 14 => ck5_4334
  | 15 => ck5_4335
  | 16 => ck5_4336
  | 17 => ck5_4337
  | 18 => ck5_4338
  | 19 => ck5_4339
  | 20 => ck5_4340
  | 21 => ck5_4341
  | 22 => ck5_4342
  | 23 => ck5_4343
  | 24 => ck5_4344
  | 25 => ck5_4345
  | 26 => ck5_4346
  | n + 27 => absurd hk (by omega)
theorem ck5g_161 : ∀ k, k < 27 → bl5 (4347 + k) = true := fun k hk => match k with
  | 0 => ck5_4347
  | 1 => ck5_4348
  | 2 => ck5_4349
  | 3 => ck5_4350
  | 4 => ck5_4351
  | 5 => ck5_4352
  | 6 => ck5_4353
  | 7 => ck5_4354
  | 8 => ck5_4355
  | 9 => ck5_4356
  | 10 => ck5_4357
  | 11 => ck5_4358
  | 12 => ck5_4359
  | 13 => ck5_4360
  | 14 => ck5_4361
  | 15 => ck5_4362
  | 16 => ck5_4363
  | 17 => ck5_4364
  | 18 => ck5_4365
  | 19 => ck5_4366
  | 20 => ck5_4367
  | 21 => ck5_4368
  | 22 => ck5_4369
  | 23 => ck5_4370
  | 24 => ck5_4371
  | 25 => ck5_4372
  | 26 => ck5_4373
  | n + 27 => absurd hk (by omega)
theorem ck5g_162 : ∀ k, k < 27 → bl5 (4374 + k) = true := fun k hk => match k with
  | 0 => ck5_4374
  | 1 => ck5_4375
  | 2 => ck5_4376
  | 3 => ck5_4377
  | 4 => ck5_4378
  | 5 => ck5_4379
  | 6 => ck5_4380
  | 7 => ck5_4381
  | 8 => ck5_4382
  | 9 => ck5_4383
  | 10 => ck5_4384
  | 11 => ck5_4385
  | 12 => ck5_4386
  | 13 => ck5_4387
  | 14 => ck5_4388
  | 15 => ck5_4389
  | 16 => ck5_4390
  | 17 => ck5_4391
  | 18 => ck5_4392
  | 19 => ck5_4393
  | 20 => ck5_4394
  | 21 => ck5_4395
  | 22 => ck5_4396
  | 23 => ck5_4397
  | 24 => ck5_4398
  | 25 => ck5_4399
  | 26 => ck5_4400
  | n + 27 => absurd hk (by omega)
theorem ck5g_163 : ∀ k, k < 27 → bl5 (4401 + k) = true := fun k hk => match k with
  | 0 => ck5_4401
  | 1 => ck5_4402
  | 2 => ck5_4403
  | 3 => ck5_4404
  | 4 => ck5_4405
  | 5 => ck5_4406
  | 6 => ck5_4407
  | 7 => ck5_4408
  | 8 => ck5_4409
  | 9 => ck5_4410
  | 10 => ck5_4411
  | 11 => ck5_4412
  | 12 => ck5_4413
  | 13 => ck5_4414
  | 14 => ck5_4415
  | 15 => ck5_4416
  | 16 => ck5_4417
  | 17 => ck5_4418
  | 18 => ck5_4419
  | 19 => ck5_4420
  | 20 => ck5_4421
  | 21 => ck5_4422
  | 22 => ck5_4423
  | 23 => ck5_4424
  | 24 => ck5_4425
  | 25 => ck5_4426
  | 26 => ck5_4427
  | n + 27 => absurd hk (by omega)
theorem ck5g_164 : ∀ k, k < 27 → bl5 (4428 + k) = true := fun k hk => match k with
  | 0 => ck5_4428
  | 1 => ck5_4429
  | 2 => ck5_4430
  | 3 => ck5_4431
  | 4 => ck5_4432
  | 5 => ck5_4433
  | 6 => ck5_4434
  | 7 => ck5_4435
  | 8 => ck5_4436
  | 9 => ck5_4437
  | 10 => ck5_4438
  | 11 => ck5_4439
  | 12 => ck5_4440
  | 13 => ck5_4441
  | 14 => ck5_4442
  | 15 => ck5_4443
  | 16 => ck5_4444
  | 17 => ck5_4445
  | 18 => ck5_4446
  | 19 => ck5_4447
  | 20 => ck5_4448
  | 21 => ck5_4449
  | 22 => ck5_4450
  | 23 => ck5_4451
  | 24 => ck5_4452
  | 25 => ck5_4453
  | 26 => ck5_4454
  | n + 27 => absurd hk (by omega)
theorem ck5g_165 : ∀ k, k < 27 → bl5 (4455 + k) = true := fun k hk => match k with
  | 0 => ck5_4455
  | 1 => ck5_4456
  | 2 => ck5_4457
  | 3 => ck5_4458
  | 4 => ck5_4459
  | 5 => ck5_4460
  | 6 => ck5_4461
  | 7 => ck5_4462
  | 8 => ck5_4463
  | 9 => ck5_4464
  | 10 => ck5_4465
  | 11 => ck5_4466
  | 12 => ck5_4467
  | 13 => ck5_4468
  | 14 => ck5_4469
  | 15 => ck5_4470
  | 16 => ck5_4471
  | 17 => ck5_4472
  | 18 => ck5_4473
  | 19 => ck5_4474
  | 20 => ck5_4475
  | 21 => ck5_4476
  | 22 => ck5_4477
  | 23 => ck5_4478
  | 24 => ck5_4479
  | 25 => ck5_4480
  | 26 => ck5_4481
  | n + 27 => absurd hk (by omega)
theorem ck5g_166 : ∀ k, k < 27 → bl5 (4482 + k) = true := fun k hk => match k with
  | 0 => ck5_4482
  | 1 => ck5_4483
  | 2 => ck5_4484
  | 3 => ck5_4485
  | 4 => ck5_4486
  | 5 => ck5_4487
  | 6 => ck5_4488
  | 7 => ck5_4489
  | 8 => ck5_4490
  | 9 => ck5_4491
  | 10 => ck5_4492
  | 11 => ck5_4493
  | 12 => ck5_4494
  | 13 => ck5_4495
  | 14 => ck5_4496
  | 15 => ck5_4497
  | 16 => ck5_4498
  | 17 => ck5_4499
  | 18 => ck5_4500
  | 19 => ck5_4501
  | 20 => ck5_4502
  | 21 => ck5_4503
  | 22 => ck5_4504
  | 23 => ck5_4505
  | 24 => ck5_4506
  | 25 => ck5_4507
  | 26 => ck5_4508
  | n + 27 => absurd hk (by omega)
theorem ck5g_167 : ∀ k, k < 27 → bl5 (4509 + k) = true := fun k hk => match k with
  | 0 => ck5_4509
  | 1 => ck5_4510
  | 2 => ck5_4511
  | 3 => ck5_4512
  | 4 => ck5_4513
  | 5 => ck5_4514
  | 6 => ck5_4515
  | 7 => ck5_4516
  | 8 => ck5_4517
  | 9 => ck5_4518
  | 10 => ck5_4519
  | 11 => ck5_4520
  | 12 => ck5_4521
  | 13 => ck5_4522
  | 14 => ck5_4523
  | 15 => ck5_4524
  | 16 => ck5_4525
  | 17 => ck5_4526
  | 18 => ck5_4527
  | 19 => ck5_4528
  | 20 => ck5_4529
  | 21 => ck5_4530
  | 22 => ck5_4531
  | 23 => ck5_4532
  | 24 => ck5_4533
  | 25 => ck5_4534
  | 26 => ck5_4535
  | n + 27 => absurd hk (by omega)
theorem ck5g_168 : ∀ k, k < 27 → bl5 (4536 + k) = true := fun k hk => match k with
  | 0 => ck5_4536
  | 1 => ck5_4537
  | 2 => ck5_4538
  | 3 => ck5_4539
  | 4 => ck5_4540
  | 5 => ck5_4541
  | 6 => ck5_4542
  | 7 => ck5_4543
  | 8 => ck5_4544
  | 9 => ck5_4545
  | 10 => ck5_4546
  | 11 => ck5_4547
  | 12 => ck5_4548
  | 13 => ck5_4549
  | 14 => ck5_4550
  | 15 => ck5_4551
  | 16 => ck5_4552
  | 17 => ck5_4553
  | 18 => ck5_4554
  | 19 => ck5_4555
  | 20 => ck5_4556
  | 21 => ck5_4557
  | 22 => ck5_4558
  | 23 => ck5_4559
  | 24 => ck5_4560
  | 25 => ck5_4561
  | 26 => ck5_4562
  | n + 27 => absurd hk (by omega)
theorem ck5g_169 : ∀ k, k < 27 → bl5 (4563 + k) = true := fun k hk => match k with
  | 0 => ck5_4563
  | 1 => ck5_4564
  | 2 => ck5_4565
  | 3 => ck5_4566
  | 4 => ck5_4567
  | 5 => ck5_4568
  | 6 => ck5_4569
  | 7 => ck5_4570
  | 8 => ck5_4571
  | 9 => ck5_4572
  | 10 => ck5_4573
  | 11 => ck5_4574
  | 12 => ck5_4575
  | 13 => ck5_4576
  | 14 => ck5_4577
  | 15 => ck5_4578
  | 16 => ck5_4579
  | 17 => ck5_4580
  | 18 => ck5_4581
  | 19 => ck5_4582
  | 20 => ck5_4583
  | 21 => ck5_4584
  | 22 => ck5_4585
  | 23 => ck5_4586
  | 24 => ck5_4587
  | 25 => ck5_4588
  | 26 => ck5_4589
  | n + 27 => absurd hk (by omega)
theorem ck5g_170 : ∀ k, k < 27 → bl5 (4590 + k) = true := fun k hk => match k with
  | 0 => ck5_4590
  | 1 => ck5_4591
  | 2 => ck5_4592
  | 3 => ck5_4593
  | 4 => ck5_4594
  | 5 => ck5_4595
  | 6 => ck5_4596
  | 7 => ck5_4597
  | 8 => ck5_4598
  | 9 => ck5_4599
  | 10 => ck5_4600
  | 11 => ck5_4601
  | 12 => ck5_4602
  | 13 => ck5_4603
  | 14 => ck5_4604
  | 15 => ck5_4605
  | 16 => ck5_4606
  | 17 => ck5_4607
  | 18 => ck5_4608
  | 19 => ck5_4609
  | 20 => ck5_4610
  | 21 => ck5_4611
  | 22 => ck5_4612
  | 23 => ck5_4613
  | 24 => ck5_4614
  | 25 => ck5_4615
  | 26 => ck5_4616
  | n + 27 => absurd hk (by omega)
theorem ck5g_171 : ∀ k, k < 27 → bl5 (4617 + k) = true := fun k hk => match k with
  | 0 => ck5_4617
  | 1 => ck5_4618
  | 2 => ck5_4619
  | 3 => ck5_4620
  | 4 => ck5_4621
  | 5 => ck5_4622
  | 6 => ck5_4623
  | 7 => ck5_4624
  | 8 => ck5_4625
  | 9 => ck5_4626
  | 10 => ck5_4627
  | 11 => ck5_4628
  | 12 => ck5_4629
  | 13 => ck5_4630
  | 14 => ck5_4631
  | 15 => ck5_4632
  | 16 => ck5_4633
  | 17 => ck5_4634
  | 18 => ck5_4635
  | 19 => ck5_4636
  | 20 => ck5_4637
  | 21 => ck5_4638
  | 22 => ck5_4639
  | 23 => ck5_4640
  | 24 => ck5_4641
  | 25 => ck5_4642
  | 26 => ck5_4643
  | n + 27 => absurd hk (by omega)
theorem ck5g_172 : ∀ k, k < 27 → bl5 (4644 + k) = true := fun k hk => match k with
  | 0 => ck5_4644
  | 1 => ck5_4645
  | 2 => ck5_4646
  | 3 => ck5_4647
  | 4 => ck5_4648
  | 5 => ck5_4649
  | 6 => ck5_4650
  | 7 => ck5_4651
  | 8 => ck5_4652
  | 9 => ck5_4653
  | 10 => ck5_4654
  | 11 => ck5_4655
  | 12 => ck5_4656
  | 13 => ck5_4657
  | 14 => ck5_4658
  | 15 => ck5_4659
  | 16 => ck5_4660
  | 17 => ck5_4661
  | 18 => ck5_4662
  | 19 => ck5_4663
  | 20 => ck5_4664
  | 21 => ck5_4665
  | 22 => ck5_4666
  | 23 => ck5_4667
  | 24 => ck5_4668
  | 25 => ck5_4669
  | 26 => ck5_4670
  | n + 27 => absurd hk (by omega)
theorem ck5g_173 : ∀ k, k < 27 → bl5 (4671 + k) = true := fun k hk => match k with
  | 0 => ck5_4671
  | 1 => ck5_4672
  | 2 => ck5_4673
  | 3 => ck5_4674
  | 4 => ck5_4675
  | 5 => ck5_4676
  | 6 => ck5_4677
  | 7 => ck5_4678
  | 8 => ck5_4679
  | 9 => ck5_4680
  | 10 => ck5_4681
  | 11 => ck5_4682
  | 12 => ck5_4683
  | 13 => ck5_4684
  | 14 => ck5_4685
  | 15 => ck5_4686
  | 16 => ck5_4687
  | 17 => ck5_4688
  | 18 => ck5_4689
  | 19 => ck5_4690
  | 20 => ck5_4691
  | 21 => ck5_4692
  | 22 => ck5_4693
  | 23 => ck5_4694
  | 24 => ck5_4695
  | 25 => ck5_4696
  | 26 => ck5_4697
  | n + 27 => absurd hk (by omega)
theorem ck5g_174 : ∀ k, k < 27 → bl5 (4698 + k) = true := fun k hk => match k with
  | 0 => ck5_4698
  | 1 => ck5_4699
  | 2 => ck5_4700
  | 3 => ck5_4701
  | 4 => ck5_4702
  | 5 => ck5_4703
  | 6 => ck5_4704
  | 7 => ck5_4705
  | 8 => ck5_4706
  | 9 => ck5_4707
  | 10 => ck5_4708
  | 11 => ck5_4709
  | 12 => ck5_4710
  | 13 => ck5_4711
  | 14 => ck5_4712
  | 15 => ck5_4713
  | 16 => ck5_4714
  | 17 => ck5_4715
  | 18 => ck5_4716
  | 19 => ck5_4717
  | 20 => ck5_4718
  | 21 => ck5_4719
  | 22 => ck5_4720
  | 23 => ck5_4721
  | 24 => ck5_4722
  | 25 => ck5_4723
  | 26 => ck5_4724
  | n + 27 => absurd hk (by omega)
theorem ck5g_175 : ∀ k, k < 27 → bl5 (4725 + k) = true := fun k hk => match k with
  | 0 => ck5_4725
  | 1 => ck5_4726
  | 2 => ck5_4727
  | 3 => ck5_4728
  | 4 => ck5_4729
  | 5 => ck5_4730
  | 6 => ck5_4731
  | 7 => ck5_4732
  | 8 => ck5_4733
  | 9 => ck5_4734
  | 10 => ck5_4735
  | 11 => ck5_4736
  | 12 => ck5_4737
  | 13 => ck5_4738
  | 14 => ck5_4739
  | 15 => ck5_4740
  | 16 => ck5_4741
  | 17 => ck5_4742
  | 18 => ck5_4743
  | 19 => ck5_4744
  | 20 => ck5_4745
  | 21 => ck5_4746
  | 22 => ck5_4747
  | 23 => ck5_4748
  | 24 => ck5_4749
  | 25 => ck5_4750
  | 26 => ck5_4751
  | n + 27 => absurd hk (by omega)
theorem ck5g_176 : ∀ k, k < 27 → bl5 (4752 + k) = true := fun k hk => match k with
  | 0 => ck5_4752
  | 1 => ck5_4753
  | 2 => ck5_4754
  | 3 => ck5_4755
  | 4 => ck5_4756
  | 5 => ck5_4757
  | 6 => ck5_4758
  | 7 => ck5_4759
  | 8 => ck5_4760
  | 9 => ck5_4761
  | 10 => ck5_4762
  | 11 => ck5_4763
  | 12 => ck5_4764
  | 13 => ck5_4765
  | 14 => ck5_4766
  | 15 => ck5_4767
  | 16 => ck5_4768
  | 17 => ck5_4769
  | 18 => ck5_4770
  | 19 => ck5_4771
  | 20 => ck5_4772
  | 21 => ck5_4773
  | 22 => ck5_4774
  | 23 => ck5_4775
  | 24 => ck5_4776
  | 25 => ck5_4777
  | 26 => ck5_4778
  | n + 27 => absurd hk (by omega)
theorem ck5g_177 : ∀ k, k < 27 → bl5 (4779 + k) = true := fun k hk => match k with
  | 0 => ck5_4779
  | 1 => ck5_4780
  | 2 => ck5_4781
  | 3 => ck5_4782
  | 4 => ck5_4783
  | 5 => ck5_4784
  | 6 => ck5_4785
  | 7 => ck5_4786
  | 8 => ck5_4787
  | 9 => ck5_4788
  | 10 => ck5_4789
  | 11 => ck5_4790
  | 12 => ck5_4791
  | 13 => ck5_4792
  | 14 => ck5_4793
  | 15 => ck5_4794
  | 16 => ck5_4795
  | 17 => ck5_4796
  | 18 => ck5_4797
  | 19 => ck5_4798
  | 20 => ck5_4799
  | 21 => ck5_4800
  | 22 => ck5_4801
  | 23 => ck5_4802
  | 24 => ck5_4803
  | 25 => ck5_4804
  | 26 => ck5_4805
  | n + 27 => absurd hk (by omega)
theorem ck5g_178 : ∀ k, k < 27 → bl5 (4806 + k) = true := fun k hk => match k with
  | 0 => ck5_4806
  | 1 => ck5_4807
  | 2 => ck5_4808
  | 3 => ck5_4809
  | 4 => ck5_4810
  | 5 => ck5_4811
  | 6 => ck5_4812
  | 7 => ck5_4813
  | 8 => ck5_4814
  | 9 => ck5_4815
  | 10 => ck5_4816
  | 11 => ck5_4817
  | 12 => ck5_4818
  | 13 => ck5_4819
  | 14 => ck5_4820
  | 15 => ck5_4821
  | 16 => ck5_4822
  | 17 => ck5_4823
  | 18 => ck5_4824
  | 19 => ck5_4825
  | 20 => ck5_4826
  | 21 => ck5_4827
  | 22 => ck5_4828
  | 23 => ck5_4829
  | 24 => ck5_4830
  | 25 => ck5_4831
  | 26 => ck5_4832
  | n + 27 => absurd hk (by omega)
theorem ck5g_179 : ∀ k, k < 27 → bl5 (4833 + k) = true := fun k hk => match k with
  | 0 => ck5_4833
  | 1 => ck5_4834
  | 2 => ck5_4835
  | 3 => ck5_4836
  | 4 => ck5_4837
  | 5 => ck5_4838
  | 6 => ck5_4839
  | 7 => ck5_4840
  | 8 => ck5_4841
  | 9 => ck5_4842
  | 10 => ck5_4843
  | 11 => ck5_4844
  | 12 => ck5_4845
  | 13 => ck5_4846
  | 14 => ck5_4847
  | 15 => ck5_4848
  | 16 => ck5_4849
  | 17 => ck5_4850
  | 18 => ck5_4851
  | 19 => ck5_4852
  | 20 => ck5_4853
  | 21 => ck5_4854
  | 22 => ck5_4855
  | 23 => ck5_4856
  | 24 => ck5_4857
  | 25 => ck5_4858
  | 26 => ck5_4859
  | n + 27 => absurd hk (by omega)
theorem ck5g_180 : ∀ k, k < 27 → bl5 (4860 + k) = true := fun k hk => match k with
  | 0 => ck5_4860
  | 1 => ck5_4861
  | 2 => ck5_4862
  | 3 => ck5_4863
  | 4 => ck5_4864
  | 5 => ck5_4865
  | 6 => ck5_4866
  | 7 => ck5_4867
  | 8 => ck5_4868
  | 9 => ck5_4869
  | 10 => ck5_4870
  | 11 => ck5_4871
  | 12 => ck5_4872
  | 13 => ck5_4873
  | 14 => ck5_4874
  | 15 => ck5_4875
  | 16 => ck5_4876
  | 17 => ck5_4877
  | 18 => ck5_4878
  | 19 => ck5_4879
  | 20 => ck5_4880
  | 21 => ck5_4881
  | 22 => ck5_4882
  | 23 => ck5_4883
  | 24 => ck5_4884
  | 25 => ck5_4885
  | 26 => ck5_4886
  | n + 27 => absurd hk (by omega)
theorem ck5g_181 : ∀ k, k < 27 → bl5 (4887 + k) = true := fun k hk => match k with
  | 0 => ck5_4887
  | 1 => ck5_4888
  | 2 => ck5_4889
  | 3 => ck5_4890
  | 4 => ck5_4891
  | 5 => ck5_4892
  | 6 => ck5_4893
  | 7 => ck5_4894
  | 8 => ck5_4895
  | 9 => ck5_4896
  | 10 => ck5_4897
  | 11 => ck5_4898
  | 12 => ck5_4899
  | 13 => ck5_4900
  | 14 => ck5_4901
  | 15 => ck5_4902
  | 16 => ck5_4903
  | 17 => ck5_4904
  | 18 => ck5_4905
  | 19 => ck5_4906
  | 20 => ck5_4907
  | 21 => ck5_4908
  | 22 => ck5_4909
  | 23 => ck5_4910
  | 24 => ck5_4911
  | 25 => ck5_4912
  | 26 => ck5_4913
  | n + 27 => absurd hk (by omega)
theorem ck5g_182 : ∀ k, k < 27 → bl5 (4914 + k) = true := fun k hk => match k with
  | 0 => ck5_4914
  | 1 => ck5_4915
  | 2 => ck5_4916
  | 3 => ck5_4917
  | 4 => ck5_4918
  | 5 => ck5_4919
  | 6 => ck5_4920
  | 7 => ck5_4921
  | 8 => ck5_4922
  | 9 => ck5_4923
  | 10 => ck5_4924
  | 11 => ck5_4925
  | 12 => ck5_4926
  | 13 => ck5_4927
  | 14 => ck5_4928
  | 15 => ck5_4929
  | 16 => ck5_4930
  | 17 => ck5_4931
  | 18 => ck5_4932
  | 19 => ck5_4933
  | 20 => ck5_4934
  | 21 => ck5_4935
  | 22 => ck5_4936
  | 23 => ck5_4937
  | 24 => ck5_4938
  | 25 => ck5_4939
  | 26 => ck5_4940
  | n + 27 => absurd hk (by omega)
theorem ck5g_183 : ∀ k, k < 27 → bl5 (4941 + k) = true := fun k hk => match k with
  | 0 => ck5_4941
  | 1 => ck5_4942
  | 2 => ck5_4943
  | 3 => ck5_4944
  | 4 => ck5_4945
  | 5 => ck5_4946
  | 6 => ck5_4947
  | 7 => ck5_4948
  | 8 => ck5_4949
  | 9 => ck5_4950
  | 10 => ck5_4951
  | 11 => ck5_4952
  | 12 => ck5_4953
  | 13 => ck5_4954
  | 14 => ck5_4955
  | 15 => ck5_4956
  | 16 => ck5_4957
  | 17 => ck5_4958
  | 18 => ck5_4959
  | 19 => ck5_4960
  | 20 => ck5_4961
  | 21 => ck5_4962
  | 22 => ck5_4963
  | 23 => ck5_4964
  | 24 => ck5_4965
  | 25 => ck5_4966
  | 26 => ck5_4967
  | n + 27 => absurd hk (by omega)
theorem ck5g_184 : ∀ k, k < 27 → bl5 (4968 + k) = true := fun k hk => match k with
  | 0 => ck5_4968
  | 1 => ck5_4969
  | 2 => ck5_4970
  | 3 => ck5_4971
  | 4 => ck5_4972
  | 5 => ck5_4973
  | 6 => ck5_4974
  | 7 => ck5_4975
  | 8 => ck5_4976
  | 9 => ck5_4977
  | 10 => ck5_4978
  | 11 => ck5_4979
  | 12 => ck5_4980
  | 13 => ck5_4981
  | 14 => ck5_4982
  | 15 => ck5_4983
  | 16 => ck5_4984
  | 17 => ck5_4985
  | 18 => ck5_4986
  | 19 => ck5_4987
  | 20 => ck5_4988
  | 21 => ck5_4989
  | 22 => ck5_4990
  | 23 => ck5_4991
  | 24 => ck5_4992
  | 25 => ck5_4993
  | 26 => ck5_4994
  | n + 27 => absurd hk (by omega)
theorem ck5g_185 : ∀ k, k < 27 → bl5 (4995 + k) = true := fun k hk => match k with
  | 0 => ck5_4995
  | 1 => ck5_4996
  | 2 => ck5_4997
  | 3 => ck5_4998
  | 4 => ck5_4999
  | 5 => ck5_5000
  | 6 => ck5_5001
  | 7 => ck5_5002
  | 8 => ck5_5003
  | 9 => ck5_5004
  | 10 => ck5_5005
  | 11 => ck5_5006
  | 12 => ck5_5007
  | 13 => ck5_5008
  | 14 => ck5_5009
  | 15 => ck5_5010
  | 16 => ck5_5011
  | 17 => ck5_5012
  | 18 => ck5_5013
  | 19 => ck5_5014
  | 20 => ck5_5015
  | 21 => ck5_5016
  | 22 => ck5_5017
  | 23 => ck5_5018
  | 24 => ck5_5019
  | 25 => ck5_5020
  | 26 => ck5_5021
  | n + 27 => absurd hk (by omega)
theorem ck5g_186 : ∀ k, k < 27 → bl5 (5022 + k) = true := fun k hk => match k with
  | 0 => ck5_5022
  | 1 => ck5_5023
  | 2 => ck5_5024
  | 3 => ck5_5025
  | 4 => ck5_5026
  | 5 => ck5_5027
  | 6 => ck5_5028
  | 7 => ck5_5029
  | 8 => ck5_5030
  | 9 => ck5_5031
  | 10 => ck5_5032
  | 11 => ck5_5033
  | 12 => ck5_5034
  | 13 => ck5_5035
  | 14 => ck5_5036
  | 15 => ck5_5037
  | 16 => ck5_5038
  | 17 => ck5_5039
  | 18 => ck5_5040
  | 19 => ck5_5041
  | 20 => ck5_5042
  | 21 => ck5_5043
  | 22 => ck5_5044
  | 23 => ck5_5045
  | 24 => ck5_5046
  | 25 => ck5_5047
  | 26 => ck5_5048
  | n + 27 => absurd hk (by omega)
theorem ck5g_187 : ∀ k, k < 27 → bl5 (5049 + k) = true := fun k hk => match k with
  | 0 => ck5_5049
  | 1 => ck5_5050
  | 2 => ck5_5051
  | 3 => ck5_5052
  | 4 => ck5_5053
  | 5 => ck5_5054
  | 6 => ck5_5055
  | 7 => ck5_5056
  | 8 => ck5_5057
  | 9 => ck5_5058
  | 10 => ck5_5059
  | 11 => ck5_5060
  | 12 => ck5_5061
  | 13 => ck5_5062
  | 14 => ck5_5063
  | 15 => ck5_5064
  | 16 => ck5_5065
  | 17 => ck5_5066
  | 18 => ck5_5067
  | 19 => ck5_5068
  | 20 => ck5_5069
  | 21 => ck5_5070
  | 22 => ck5_5071
  | 23 => ck5_5072
  | 24 => ck5_5073
  | 25 => ck5_5074
  | 26 => ck5_5075
  | n + 27 => absurd hk (by omega)
theorem ck5g_188 : ∀ k, k < 27 → bl5 (5076 + k) = true := fun k hk => match k with
  | 0 => ck5_5076
  | 1 => ck5_5077
  | 2 => ck5_5078
  | 3 => ck5_5079
  | 4 => ck5_5080
  | 5 => ck5_5081
  | 6 => ck5_5082
  | 7 => ck5_5083
  | 8 => ck5_5084
  | 9 => ck5_5085
  | 10 => ck5_5086
  | 11 => ck5_5087
  | 12 => ck5_5088
  | 13 => ck5_5089
  | 14 => ck5_5090
  | 15 => ck5_5091
  | 16 => ck5_5092
  | 17 => ck5_5093
  | 18 => ck5_5094
  | 19 => ck5_5095
  | 20 => ck5_5096
  | 21 => ck5_5097
  | 22 => ck5_5098
  | 23 => ck5_5099
  | 24 => ck5_5100
  | 25 => ck5_5101
  | 26 => ck5_5102
  | n + 27 => absurd hk (by omega)
theorem ck5g_189 : ∀ k, k < 27 → bl5 (5103 + k) = true := fun k hk => match k with
  | 0 => ck5_5103
  | 1 => ck5_5104
  | 2 => ck5_5105
  | 3 => ck5_5106
  | 4 => ck5_5107
  | 5 => ck5_5108
  | 6 => ck5_5109
  | 7 => ck5_5110
  | 8 => ck5_5111
  | 9 => ck5_5112
  | 10 => ck5_5113
  | 11 => ck5_5114
  | 12 => ck5_5115
  | 13 => ck5_5116
  | 14 => ck5_5117
  | 15 => ck5_5118
  | 16 => ck5_5119
  | 17 => ck5_5120
  | 18 => ck5_5121
  | 19 => ck5_5122
  | 20 => ck5_5123
  | 21 => ck5_5124
  | 22 => ck5_5125
  | 23 => ck5_5126
  | 24 => ck5_5127
  | 25 => ck5_5128
  | 26 => ck5_5129
  | n + 27 => absurd hk (by omega)
theorem ck5g_190 : ∀ k, k < 27 → bl5 (5130 + k) = true := fun k hk => match k with
  | 0 => ck5_5130
  | 1 => ck5_5131
  | 2 => ck5_5132
  | 3 => ck5_5133
  | 4 => ck5_5134
  | 5 => ck5_5135
  | 6 => ck5_5136
  | 7 => ck5_5137
  | 8 => ck5_5138
  | 9 => ck5_5139
  | 10 => ck5_5140
  | 11 => ck5_5141
  | 12 => ck5_5142
  | 13 => ck5_5143
  | 14 => ck5_5144
  | 15 => ck5_5145
  | 16 => ck5_5146
  | 17 => ck5_5147
  | 18 => ck5_5148
  | 19 => ck5_5149
  | 20 => ck5_5150
  | 21 => ck5_5151
  | 22 => ck5_5152
  | 23 => ck5_5153
  | 24 => ck5_5154
  | 25 => ck5_5155
  | 26 => ck5_5156
  | n + 27 => absurd hk (by omega)
theorem ck5g_191 : ∀ k, k < 27 → bl5 (5157 + k) = true := fun k hk => match k with
  | 0 => ck5_5157
  | 1 => ck5_5158
  | 2 => ck5_5159
  | 3 => ck5_5160
  | 4 => ck5_5161
  | 5 => ck5_5162
  | 6 => ck5_5163
  | 7 => ck5_5164
  | 8 => ck5_5165
  | 9 => ck5_5166
  | 10 => ck5_5167
  | 11 => ck5_5168
  | 12 => ck5_5169
  | 13 => ck5_5170
  | 14 => ck5_5171
  | 15 => ck5_5172
  | 16 => ck5_5173
  | 17 => ck5_5174
  | 18 => ck5_5175
  | 19 => ck5_5176
  | 20 => ck5_5177
  | 21 => ck5_5178
  | 22 => ck5_5179
  | 23 => ck5_5180
  | 24 => ck5_5181
  | 25 => ck5_5182
  | 26 => ck5_5183
  | n + 27 => absurd hk (by omega)
theorem ck5g_192 : ∀ k, k < 27 → bl5 (5184 + k) = true := fun k hk => match k with
  | 0 => ck5_5184
  | 1 => ck5_5185
  | 2 => ck5_5186
  | 3 => ck5_5187
  | 4 => ck5_5188
  | 5 => ck5_5189
  | 6 => ck5_5190
  | 7 => ck5_5191
  | 8 => ck5_5192
  | 9 => ck5_5193
  | 10 => ck5_5194
  | 11 => ck5_5195
  | 12 => ck5_5196
  | 13 => ck5_5197
  | 14 => ck5_5198
  | 15 => ck5_5199
  | 16 => ck5_5200
  | 17 => ck5_5201
  | 18 => ck5_5202
  | 19 => ck5_5203
  | 20 => ck5_5204
  | 21 => ck5_5205
  | 22 => ck5_5206
  | 23 => ck5_5207
  | 24 => ck5_5208
  | 25 => ck5_5209
  | 26 => ck5_5210
  | n + 27 => absurd hk (by omega)
theorem ck5g_193 : ∀ k, k < 27 → bl5 (5211 + k) = true := fun k hk => match k with
  | 0 => ck5_5211
  | 1 => ck5_5212
  | 2 => ck5_5213
  | 3 => ck5_5214
  | 4 => ck5_5215
  | 5 => ck5_5216
  | 6 => ck5_5217
  | 7 => ck5_5218
  | 8 => ck5_5219
  | 9 => ck5_5220
  | 10 => ck5_5221
  | 11 => ck5_5222
  | 12 => ck5_5223
  | 13 => ck5_5224
  | 14 => ck5_5225
  | 15 => ck5_5226
  | 16 => ck5_5227
  | 17 => ck5_5228
  | 18 => ck5_5229
  | 19 => ck5_5230
  | 20 => ck5_5231
  | 21 => ck5_5232
  | 22 => ck5_5233
  | 23 => ck5_5234
  | 24 => ck5_5235
  | 25 => ck5_5236
  | 26 => ck5_5237
  | n + 27 => absurd hk (by omega)
theorem ck5g_194 : ∀ k, k < 27 → bl5 (5238 + k) = true := fun k hk => match k with
  | 0 => ck5_5238
  | 1 => ck5_5239
  | 2 => ck5_5240
  | 3 => ck5_5241
  | 4 => ck5_5242
  | 5 => ck5_5243
  | 6 => ck5_5244
  | 7 => ck5_5245
  | 8 => ck5_5246
  | 9 => ck5_5247
  | 10 => ck5_5248
  | 11 => ck5_5249
  | 12 => ck5_5250
  | 13 => ck5_5251
  | 14 => ck5_5252
  | 15 => ck5_5253
  | 16 => ck5_5254
  | 17 => ck5_5255
  | 18 => ck5_5256
  | 19 => ck5_5257
  | 20 => ck5_5258
  | 21 => ck5_5259
  | 22 => ck5_5260
  | 23 => ck5_5261
  | 24 => ck5_5262
  | 25 => ck5_5263
  | 26 => ck5_5264
  | n + 27 => absurd hk (by omega)
theorem ck5g_195 : ∀ k, k < 27 → bl5 (5265 + k) = true := fun k hk => match k with
  | 0 => ck5_5265
  | 1 => ck5_5266
  | 2 => ck5_5267
  | 3 => ck5_5268
  | 4 => ck5_5269
  | 5 => ck5_5270
  | 6 => ck5_5271
  | 7 => ck5_5272
  | 8 => ck5_5273
  | 9 => ck5_5274
  | 10 => ck5_5275
  | 11 => ck5_5276
  | 12 => ck5_5277
  | 13 => ck5_5278
  | 14 => ck5_5279
  | 15 => ck5_5280
  | 16 => ck5_5281
  | 17 => ck5_5282
  | 18 => ck5_5283
  | 19 => ck5_5284
  | 20 => ck5_5285
  | 21 => ck5_5286
  | 22 => ck5_5287
  | 23 => ck5_5288
  | 24 => ck5_5289
  | 25 => ck5_5290
  | 26 => ck5_5291
  | n + 27 => absurd hk (by omega)
theorem ck5g_196 : ∀ k, k < 27 → bl5 (5292 + k) = true := fun k hk => match k with
  | 0 => ck5_5292
  | 1 => ck5_5293
  | 2 => ck5_5294
  | 3 => ck5_5295
  | 4 => ck5_5296
  | 5 => ck5_5297
  | 6 => ck5_5298
  | 7 => ck5_5299
  | 8 => ck5_5300
  | 9 => ck5_5301
  | 10 => ck5_5302
  | 11 => ck5_5303
  | 12 => ck5_5304
  | 13 => ck5_5305
  | 14 => ck5_5306
  | 15 => ck5_5307
  | 16 => ck5_5308
  | 17 => ck5_5309
  | 18 => ck5_5310
  | 19 => ck5_5311
  | 20 => ck5_5312
  | 21 => ck5_5313
  | 22 => ck5_5314
  | 23 => ck5_5315
  | 24 => ck5_5316
  | 25 => ck5_5317
  | 26 => ck5_5318
  | n + 27 => absurd hk (by omega)
theorem ck5g_197 : ∀ k, k < 27 → bl5 (5319 + k) = true := fun k hk => match k with
  | 0 => ck5_5319
  | 1 => ck5_5320
  | 2 => ck5_5321
  | 3 => ck5_5322
  | 4 => ck5_5323
  | 5 => ck5_5324
  | 6 => ck5_5325
  | 7 => ck5_5326
  | 8 => ck5_5327
  | 9 => ck5_5328
  | 10 => ck5_5329
  | 11 => ck5_5330
  | 12 => ck5_5331
  | 13 => ck5_5332
  | 14 => ck5_5333
  | 15 => ck5_5334
  | 16 => ck5_5335
  | 17 => ck5_5336
  | 18 => ck5_5337
  | 19 => ck5_5338
  | 20 => ck5_5339
  | 21 => ck5_5340
  | 22 => ck5_5341
  | 23 => ck5_5342
  | 24 => ck5_5343
  | 25 => ck5_5344
  | 26 => ck5_5345
  | n + 27 => absurd hk (by omega)
theorem ck5g_198 : ∀ k, k < 27 → bl5 (5346 + k) = true := fun k hk => match k with
  | 0 => ck5_5346
  | 1 => ck5_5347
  | 2 => ck5_5348
  | 3 => ck5_5349
  | 4 => ck5_5350
  | 5 => ck5_5351
  | 6 => ck5_5352
  | 7 => ck5_5353
  | 8 => ck5_5354
  | 9 => ck5_5355
  | 10 => ck5_5356
  | 11 => ck5_5357
  | 12 => ck5_5358
  | 13 => ck5_5359
  | 14 => ck5_5360
  | 15 => ck5_5361
  | 16 => ck5_5362
  | 17 => ck5_5363
  | 18 => ck5_5364
  | 19 => ck5_5365
  | 20 => ck5_5366
  | 21 => ck5_5367
  | 22 => ck5_5368
  | 23 => ck5_5369
  | 24 => ck5_5370
  | 25 => ck5_5371
  | 26 => ck5_5372
  | n + 27 => absurd hk (by omega)
theorem ck5g_199 : ∀ k, k < 27 → bl5 (5373 + k) = true := fun k hk => match k with
  | 0 => ck5_5373
  | 1 => ck5_5374
  | 2 => ck5_5375
  | 3 => ck5_5376
  | 4 => ck5_5377
  | 5 => ck5_5378
  | 6 => ck5_5379
  | 7 => ck5_5380
  | 8 => ck5_5381
  | 9 => ck5_5382
  | 10 => ck5_5383
  | 11 => ck5_5384
  | 12 => ck5_5385
  | 13 => ck5_5386
  | 14 => ck5_5387
  | 15 => ck5_5388
  | 16 => ck5_5389
  | 17 => ck5_5390
  | 18 => ck5_5391
  | 19 => ck5_5392
  | 20 => ck5_5393
  | 21 => ck5_5394
  | 22 => ck5_5395
  | 23 => ck5_5396
  | 24 => ck5_5397
  | 25 => ck5_5398
  | 26 => ck5_5399
  | n + 27 => absurd hk (by omega)
theorem ck5g_200 : ∀ k, k < 27 → bl5 (5400 + k) = true := fun k hk => match k with
  | 0 => ck5_5400
  | 1 => ck5_5401
  | 2 => ck5_5402
  | 3 => ck5_5403
  | 4 => ck5_5404
  | 5 => ck5_5405
  | 6 => ck5_5406
  | 7 => ck5_5407
  | 8 => ck5_5408
  | 9 => ck5_5409
  | 10 => ck5_5410
  | 11 => ck5_5411
  | 12 => ck5_5412
  | 13 => ck5_5413
  | 14 => ck5_5414
  | 15 => ck5_5415
  | 16 => ck5_5416
  | 17 => ck5_5417
  | 18 => ck5_5418
  | 19 => ck5_5419
  | 20 => ck5_5420
  | 21 => ck5_5421
  | 22 => ck5_5422
  | 23 => ck5_5423
  | 24 => ck5_5424
  | 25 => ck5_5425
  | 26 => ck5_5426
  | n + 27 => absurd hk (by omega)
theorem ck5g_201 : ∀ k, k < 27 → bl5 (5427 + k) = true := fun k hk => match k with
  | 0 => ck5_5427
  | 1 => ck5_5428
  | 2 => ck5_5429
  | 3 => ck5_5430
  | 4 => ck5_5431
  | 5 => ck5_5432
  | 6 => ck5_5433
  | 7 => ck5_5434
  | 8 => ck5_5435
  | 9 => ck5_5436
  | 10 => ck5_5437
  | 11 => ck5_5438
  | 12 => ck5_5439
  | 13 => ck5_5440
  | 14 => ck5_5441
  | 15 => ck5_5442
  | 16 => ck5_5443
  | 17 => ck5_5444
  | 18 => ck5_5445
  | 19 => ck5_5446
  | 20 => ck5_5447
  | 21 => ck5_5448
  | 22 => ck5_5449
  | 23 => ck5_5450
  | 24 => ck5_5451
  | 25 => ck5_5452
  | 26 => ck5_5453
  | n + 27 => absurd hk (by omega)
theorem ck5g_202 : ∀ k, k < 27 → bl5 (5454 + k) = true := fun k hk => match k with
  | 0 => ck5_5454
  | 1 => ck5_5455
  | 2 => ck5_5456
  | 3 => ck5_5457
  | 4 => ck5_5458
  | 5 => ck5_5459
  | 6 => ck5_5460
  | 7 => ck5_5461
  | 8 => ck5_5462
  | 9 => ck5_5463
  | 10 => ck5_5464
  | 11 => ck5_5465
  | 12 => ck5_5466
  | 13 => ck5_5467
  | 14 => ck5_5468
  | 15 => ck5_5469
  | 16 => ck5_5470
  | 17 => ck5_5471
  | 18 => ck5_5472
  | 19 => ck5_5473
  | 20 => ck5_5474
  | 21 => ck5_5475
  | 22 => ck5_5476
  | 23 => ck5_5477
  | 24 => ck5_5478
  | 25 => ck5_5479
  | 26 => ck5_5480
  | n + 27 => absurd hk (by omega)
theorem ck5g_203 : ∀ k, k < 27 → bl5 (5481 + k) = true := fun k hk => match k with
  | 0 => ck5_5481
  | 1 => ck5_5482
  | 2 => ck5_5483
  | 3 => ck5_5484
  | 4 => ck5_5485
  | 5 => ck5_5486
  | 6 => ck5_5487
  | 7 => ck5_5488
  | 8 => ck5_5489
  | 9 => ck5_5490
  | 10 => ck5_5491
  | 11 => ck5_5492
  | 12 => ck5_5493
  | 13 => ck5_5494
  | 14 => ck5_5495
  | 15 => ck5_5496
  | 16 => ck5_5497
  | 17 => ck5_5498
  | 18 => ck5_5499
  | 19 => ck5_5500
  | 20 => ck5_5501
  | 21 => ck5_5502
  | 22 => ck5_5503
  | 23 => ck5_5504
  | 24 => ck5_5505
  | 25 => ck5_5506
  | 26 => ck5_5507
  | n + 27 => absurd hk (by omega)
theorem ck5g_204 : ∀ k, k < 27 → bl5 (5508 + k) = true := fun k hk => match k with
  | 0 => ck5_5508
  | 1 => ck5_5509
  | 2 => ck5_5510
  | 3 => ck5_5511
  | 4 => ck5_5512
  | 5 => ck5_5513
  | 6 => ck5_5514
  | 7 => ck5_5515
  | 8 => ck5_5516
  | 9 => ck5_5517
  | 10 => ck5_5518
  | 11 => ck5_5519
  | 12 => ck5_5520
  | 13 => ck5_5521
  | 14 => ck5_5522
  | 15 => ck5_5523
  | 16 => ck5_5524
  | 17 => ck5_5525
  | 18 => ck5_5526
  | 19 => ck5_5527
  | 20 => ck5_5528
  | 21 => ck5_5529
  | 22 => ck5_5530
  | 23 => ck5_5531
  | 24 => ck5_5532
  | 25 => ck5_5533
  | 26 => ck5_5534
  | n + 27 => absurd hk (by omega)
theorem ck5g_205 : ∀ k, k < 27 → bl5 (5535 + k) = true := fun k hk => match k with
  | 0 => ck5_5535
  | 1 => ck5_5536
  | 2 => ck5_5537
  | 3 => ck5_5538
  | 4 => ck5_5539
  | 5 => ck5_5540
  | 6 => ck5_5541
  | 7 => ck5_5542
  | 8 => ck5_5543
  | 9 => ck5_5544
  | 10 => ck5_5545
  | 11 => ck5_5546
  | 12 => ck5_5547
  | 13 => ck5_5548
  | 14 => ck5_5549
  | 15 => ck5_5550
  | 16 => ck5_5551
  | 17 => ck5_5552
  | 18 => ck5_5553
  | 19 => ck5_5554
  | 20 => ck5_5555
  | 21 => ck5_5556
  | 22 => ck5_5557
  | 23 => ck5_5558
  | 24 => ck5_5559
  | 25 => ck5_5560
  | 26 => ck5_5561
  | n + 27 => absurd hk (by omega)
theorem ck5g_206 : ∀ k, k < 27 → bl5 (5562 + k) = true := fun k hk => match k with
  | 0 => ck5_5562
  | 1 => ck5_5563
  | 2 => ck5_5564
  | 3 => ck5_5565
  | 4 => ck5_5566
  | 5 => ck5_5567
  | 6 => ck5_5568
  | 7 => ck5_5569
  | 8 => ck5_5570
  | 9 => ck5_5571
  | 10 => ck5_5572
  | 11 => ck5_5573
  | 12 => ck5_5574
  | 13 => ck5_5575
  | 14 => ck5_5576
  | 15 => ck5_5577
  | 16 => ck5_5578
  | 17 => ck5_5579
  | 18 => ck5_5580
  | 19 => ck5_5581
  | 20 => ck5_5582
  | 21 => ck5_5583
  | 22 => ck5_5584
  | 23 => ck5_5585
  | 24 => ck5_5586
  | 25 => ck5_5587
  | 26 => ck5_5588
  | n + 27 => absurd hk (by omega)
theorem ck5g_207 : ∀ k, k < 27 → bl5 (5589 + k) = true := fun k hk => match k with
  | 0 => ck5_5589
  | 1 => ck5_5590
  | 2 => ck5_5591
  | 3 => ck5_5592
  | 4 => ck5_5593
  | 5 => ck5_5594
  | 6 => ck5_5595
  | 7 => ck5_5596
  | 8 => ck5_5597
  | 9 => ck5_5598
  | 10 => ck5_5599
  | 11 => ck5_5600
  | 12 => ck5_5601
  | 13 => ck5_5602
  | 14 => ck5_5603
  | 15 => ck5_5604
  | 16 => ck5_5605
  | 17 => ck5_5606
  | 18 => ck5_5607
  | 19 => ck5_5608
  | 20 => ck5_5609
  | 21 => ck5_5610
  | 22 => ck5_5611
  | 23 => ck5_5612
  | 24 => ck5_5613
  | 25 => ck5_5614
  | 26 => ck5_5615
  | n + 27 => absurd hk (by omega)
theorem ck5g_208 : ∀ k, k < 27 → bl5 (5616 + k) = true := fun k hk => match k with
  | 0 => ck5_5616
  | 1 => ck5_5617
  | 2 => ck5_5618
  | 3 => ck5_5619
  | 4 => ck5_5620
  | 5 => ck5_5621
  | 6 => ck5_5622
  | 7 => ck5_5623
  | 8 => ck5_5624
  | 9 => ck5_5625
  | 10 => ck5_5626
  | 11 => ck5_5627
  | 12 => ck5_5628
  | 13 => ck5_5629
  | 14 => ck5_5630
  | 15 => ck5_5631
  | 16 => ck5_5632
  | 17 => ck5_5633
  | 18 => ck5_5634
  | 19 => ck5_5635
  | 20 => ck5_5636
  | 21 => ck5_5637
  | 22 => ck5_5638
  | 23 => ck5_5639
  | 24 => ck5_5640
  | 25 => ck5_5641
  | 26 => ck5_5642
  | n + 27 => absurd hk (by omega)
theorem ck5g_209 : ∀ k, k < 27 → bl5 (5643 + k) = true := fun k hk => match k with
  | 0 => ck5_5643
  | 1 => ck5_5644
  | 2 => ck5_5645
  | 3 => ck5_5646
  | 4 => ck5_5647
  | 5 => ck5_5648
  | 6 => ck5_5649
  | 7 => ck5_5650
  | 8 => ck5_5651
  | 9 => ck5_5652
  | 10 => ck5_5653
  | 11 => ck5_5654
  | 12 => ck5_5655
  | 13 => ck5_5656
  | 14 => ck5_5657
  | 15 => ck5_5658
  | 16 => ck5_5659
  | 17 => ck5_5660
  | 18 => ck5_5661
  | 19 => ck5_5662
  | 20 => ck5_5663
  | 21 => ck5_5664
  | 22 => ck5_5665
  | 23 => ck5_5666
  | 24 => ck5_5667
  | 25 => ck5_5668
  | 26 => ck5_5669
  | n + 27 => absurd hk (by omega)
theorem ck5g_210 : ∀ k, k < 27 → bl5 (5670 + k) = true := fun k hk => match k with
  | 0 => ck5_5670
  | 1 => ck5_5671
  | 2 => ck5_5672
  | 3 => ck5_5673
  | 4 => ck5_5674
  | 5 => ck5_5675
  | 6 => ck5_5676
  | 7 => ck5_5677
  | 8 => ck5_5678
  | 9 => ck5_5679
  | 10 => ck5_5680
  | 11 => ck5_5681
  | 12 => ck5_5682
  | 13 => ck5_5683
  | 14 => ck5_5684
  | 15 => ck5_5685
  | 16 => ck5_5686
  | 17 => ck5_5687
  | 18 => ck5_5688
  | 19 => ck5_5689
  | 20 => ck5_5690
  | 21 => ck5_5691
  | 22 => ck5_5692
  | 23 => ck5_5693
  | 24 => ck5_5694
  | 25 => ck5_5695
  | 26 => ck5_5696
  | n + 27 => absurd hk (by omega)
theorem ck5g_211 : ∀ k, k < 27 → bl5 (5697 + k) = true := fun k hk => match k with
  | 0 => ck5_5697
  | 1 => ck5_5698
  | 2 => ck5_5699
  | 3 => ck5_5700
  | 4 => ck5_5701
  | 5 => ck5_5702
  | 6 => ck5_5703
  | 7 => ck5_5704
  | 8 => ck5_5705
  | 9 => ck5_5706
  | 10 => ck5_5707
  | 11 => ck5_5708
  | 12 => ck5_5709
  | 13 => ck5_5710
  | 14 => ck5_5711
  | 15 => ck5_5712
  | 16 => ck5_5713
  | 17 => ck5_5714
  | 18 => ck5_5715
  | 19 => ck5_5716
  | 20 => ck5_5717
  | 21 => ck5_5718
  | 22 => ck5_5719
  | 23 => ck5_5720
  | 24 => ck5_5721
  | 25 => ck5_5722
  | 26 => ck5_5723
  | n + 27 => absurd hk (by omega)
theorem ck5g_212 : ∀ k, k < 27 → bl5 (5724 + k) = true := fun k hk => match k with
  | 0 => ck5_5724
  | 1 => ck5_5725
  | 2 => ck5_5726
  | 3 => ck5_5727
  | 4 => ck5_5728
  | 5 => ck5_5729
  | 6 => ck5_5730
  | 7 => ck5_5731
  | 8 => ck5_5732
  | 9 => ck5_5733
  | 10 => ck5_5734
  | 11 => ck5_5735
  | 12 => ck5_5736
  | 13 => ck5_5737
  | 14 => ck5_5738
  | 15 => ck5_5739
  | 16 => ck5_5740
  | 17 => ck5_5741
  | 18 => ck5_5742
  | 19 => ck5_5743
  | 20 => ck5_5744
  | 21 => ck5_5745
  | 22 => ck5_5746
  | 23 => ck5_5747
  | 24 => ck5_5748
  | 25 => ck5_5749
  | 26 => ck5_5750
  | n + 27 => absurd hk (by omega)
theorem ck5g_213 : ∀ k, k < 27 → bl5 (5751 + k) = true := fun k hk => match k with
  | 0 => ck5_5751
  | 1 => ck5_5752
  | 2 => ck5_5753
  | 3 => ck5_5754
  | 4 => ck5_5755
  | 5 => ck5_5756
  | 6 => ck5_5757
  | 7 => ck5_5758
  | 8 => ck5_5759
  | 9 => ck5_5760
  | 10 => ck5_5761
  | 11 => ck5_5762
  | 12 => ck5_5763
  | 13 => ck5_5764
  | 14 => ck5_5765
  | 15 => ck5_5766
  | 16 => ck5_5767
  | 17 => ck5_5768
  | 18 => ck5_5769
  | 19 => ck5_5770
  | 20 => ck5_5771
  | 21 => ck5_5772
  | 22 => ck5_5773
  | 23 => ck5_5774
  | 24 => ck5_5775
  | 25 => ck5_5776
  | 26 => ck5_5777
  | n + 27 => absurd hk (by omega)
theorem ck5g_214 : ∀ k, k < 27 → bl5 (5778 + k) = true := fun k hk => match k with
  | 0 => ck5_5778
  | 1 => ck5_5779
  | 2 => ck5_5780
  | 3 => ck5_5781
  | 4 => ck5_5782
  | 5 => ck5_5783
  | 6 => ck5_5784
  | 7 => ck5_5785
  | 8 => ck5_5786
  | 9 => ck5_5787
  | 10 => ck5_5788
  | 11 => ck5_5789
  | 12 => ck5_5790
  | 13 => ck5_5791
  | 14 => ck5_5792
  | 15 => ck5_5793
  | 16 => ck5_5794
  | 17 => ck5_5795
  | 18 => ck5_5796
  | 19 => ck5_5797
  | 20 => ck5_5798
  | 21 => ck5_5799
  | 22 => ck5_5800
  | 23 => ck5_5801
  | 24 => ck5_5802
  | 25 => ck5_5803
  | 26 => ck5_5804
  | n + 27 => absurd hk (by omega)
theorem ck5g_215 : ∀ k, k < 27 → bl5 (5805 + k) = true := fun k hk => match k with
  | 0 => ck5_5805
  | 1 => ck5_5806
  | 2 => ck5_5807
  | 3 => ck5_5808
  | 4 => ck5_5809
  | 5 => ck5_5810
  | 6 => ck5_5811
  | 7 => ck5_5812
  | 8 => ck5_5813
  | 9 => ck5_5814
  | 10 => ck5_5815
  | 11 => ck5_5816
  | 12 => ck5_5817
  | 13 => ck5_5818
  | 14 => ck5_5819
  | 15 => ck5_5820
  | 16 => ck5_5821
  | 17 => ck5_5822
  | 18 => ck5_5823
  | 19 => ck5_5824
  | 20 => ck5_5825
  | 21 => ck5_5826
  | 22 => ck5_5827
  | 23 => ck5_5828
  | 24 => ck5_5829
  | 25 => ck5_5830
  | 26 => ck5_5831
  | n + 27 => absurd hk (by omega)
theorem ck5g_216 : ∀ k, k < 27 → bl5 (5832 + k) = true := fun k hk => match k with
  | 0 => ck5_5832
  | 1 => ck5_5833
  | 2 => ck5_5834
  | 3 => ck5_5835
  | 4 => ck5_5836
  | 5 => ck5_5837
  | 6 => ck5_5838
  | 7 => ck5_5839
  | 8 => ck5_5840
  | 9 => ck5_5841
  | 10 => ck5_5842
  | 11 => ck5_5843
  | 12 => ck5_5844
  | 13 => ck5_5845
  | 14 => ck5_5846
  | 15 => ck5_5847
  | 16 => ck5_5848
  | 17 => ck5_5849
  | 18 => ck5_5850
  | 19 => ck5_5851
  | 20 => ck5_5852
  | 21 => ck5_5853
  | 22 => ck5_5854
  | 23 => ck5_5855
  | 24 => ck5_5856
  | 25 => ck5_5857
  | 26 => ck5_5858
  | n + 27 => absurd hk (by omega)
theorem ck5g_217 : ∀ k, k < 27 → bl5 (5859 + k) = true := fun k hk => match k with
  | 0 => ck5_5859
  | 1 => ck5_5860
  | 2 => ck5_5861
  | 3 => ck5_5862
  | 4 => ck5_5863
  | 5 => ck5_5864
  | 6 => ck5_5865
  | 7 => ck5_5866
  | 8 => ck5_5867
  | 9 => ck5_5868
  | 10 => ck5_5869
  | 11 => ck5_5870
  | 12 => ck5_5871
  | 13 => ck5_5872
  | 14 => ck5_5873
  | 15 => ck5_5874
  | 16 => ck5_5875
  | 17 => ck5_5876
  | 18 => ck5_5877
  | 19 => ck5_5878
  | 20 => ck5_5879
  | 21 => ck5_5880
  | 22 => ck5_5881
  | 23 => ck5_5882
  | 24 => ck5_5883
  | 25 => ck5_5884
  | 26 => ck5_5885
  | n + 27 => absurd hk (by omega)
theorem ck5g_218 : ∀ k, k < 27 → bl5 (5886 + k) = true := fun k hk => match k with
  | 0 => ck5_5886
  | 1 => ck5_5887
  | 2 => ck5_5888
  | 3 => ck5_5889
  | 4 => ck5_5890
  | 5 => ck5_5891
  | 6 => ck5_5892
  | 7 => ck5_5893
  | 8 => ck5_5894
  | 9 => ck5_5895
  | 10 => ck5_5896
  | 11 => ck5_5897
  | 12 => ck5_5898
  | 13 => ck5_5899
  | 14 => ck5_5900
  | 15 => ck5_5901
  | 16 => ck5_5902
  | 17 => ck5_5903
  | 18 => ck5_5904
  | 19 => ck5_5905
  | 20 => ck5_5906
  | 21 => ck5_5907
  | 22 => ck5_5908
  | 23 => ck5_5909
  | 24 => ck5_5910
  | 25 => ck5_5911
  | 26 => ck5_5912
  | n + 27 => absurd hk (by omega)
theorem ck5g_219 : ∀ k, k < 27 → bl5 (5913 + k) = true := fun k hk => match k with
  | 0 => ck5_5913
  | 1 => ck5_5914
  | 2 => ck5_5915
  | 3 => ck5_5916
  | 4 => ck5_5917
  | 5 => ck5_5918
  | 6 => ck5_5919
  | 7 => ck5_5920
  | 8 => ck5_5921
  | 9 => ck5_5922
  | 10 => ck5_5923
  | 11 => ck5_5924
  | 12 => ck5_5925
  | 13 => ck5_5926
  | 14 => ck5_5927
  | 15 => ck5_5928
  | 16 => ck5_5929
  | 17 => ck5_5930
  | 18 => ck5_5931
  | 19 => ck5_5932
  | 20 => ck5_5933
  | 21 => ck5_5934
  | 22 => ck5_5935
  | 23 => ck5_5936
  | 24 => ck5_5937
  | 25 => ck5_5938
  | 26 => ck5_5939
  | n + 27 => absurd hk (by omega)
theorem ck5g_220 : ∀ k, k < 27 → bl5 (5940 + k) = true := fun k hk => match k with
  | 0 => ck5_5940
  | 1 => ck5_5941
  | 2 => ck5_5942
  | 3 => ck5_5943
  | 4 => ck5_5944
  | 5 => ck5_5945
  | 6 => ck5_5946
  | 7 => ck5_5947
  | 8 => ck5_5948
  | 9 => ck5_5949
  | 10 => ck5_5950
  | 11 => ck5_5951
  | 12 => ck5_5952
  | 13 => ck5_5953
  | 14 => ck5_5954
  | 15 => ck5_5955
  | 16 => ck5_5956
  | 17 => ck5_5957
  | 18 => ck5_5958
  | 19 => ck5_5959
  | 20 => ck5_5960
  | 21 => ck5_5961
  | 22 => ck5_5962
  | 23 => ck5_5963
  | 24 => ck5_5964
  | 25 => ck5_5965
  | 26 => ck5_5966
  | n + 27 => absurd hk (by omega)
theorem ck5g_221 : ∀ k, k < 27 → bl5 (5967 + k) = true := fun k hk => match k with
  | 0 => ck5_5967
  | 1 => ck5_5968
  | 2 => ck5_5969
  | 3 => ck5_5970
  | 4 => ck5_5971
  | 5 => ck5_5972
  | 6 => ck5_5973
  | 7 => ck5_5974
  | 8 => ck5_5975
  | 9 => ck5_5976
  | 10 => ck5_5977
  | 11 => ck5_5978
  | 12 => ck5_5979
  | 13 => ck5_5980
  | 14 => ck5_5981
  | 15 => ck5_5982
  | 16 => ck5_5983
  | 17 => ck5_5984
  | 18 => ck5_5985
  | 19 => ck5_5986
  | 20 => ck5_5987
  | 21 => ck5_5988
  | 22 => ck5_5989
  | 23 => ck5_5990
  | 24 => ck5_5991
  | 25 => ck5_5992
  | 26 => ck5_5993
  | n + 27 => absurd hk (by omega)
theorem ck5g_222 : ∀ k, k < 27 → bl5 (5994 + k) = true := fun k hk => match k with
  | 0 => ck5_5994
  | 1 => ck5_5995
  | 2 => ck5_5996
  | 3 => ck5_5997
  | 4 => ck5_5998
  | 5 => ck5_5999
  | 6 => ck5_6000
  | 7 => ck5_6001
  | 8 => ck5_6002
  | 9 => ck5_6003
  | 10 => ck5_6004
  | 11 => ck5_6005
  | 12 => ck5_6006
  | 13 => ck5_6007
  | 14 => ck5_6008
  | 15 => ck5_6009
  | 16 => ck5_6010
  | 17 => ck5_6011
  | 18 => ck5_6012
  | 19 => ck5_6013
  | 20 => ck5_6014
  | 21 => ck5_6015
  | 22 => ck5_6016
  | 23 => ck5_6017
  | 24 => ck5_6018
  | 25 => ck5_6019
  | 26 => ck5_6020
  | n + 27 => absurd hk (by omega)
theorem ck5g_223 : ∀ k, k < 27 → bl5 (6021 + k) = true := fun k hk => match k with
  | 0 => ck5_6021
  | 1 => ck5_6022
  | 2 => ck5_6023
  | 3 => ck5_6024
  | 4 => ck5_6025
  | 5 => ck5_6026
  | 6 => ck5_6027
  | 7 => ck5_6028
  | 8 => ck5_6029
  | 9 => ck5_6030
  | 10 => ck5_6031
  | 11 => ck5_6032
  | 12 => ck5_6033
  | 13 => ck5_6034
  | 14 => ck5_6035
  | 15 => ck5_6036
  | 16 => ck5_6037
  | 17 => ck5_6038
  | 18 => ck5_6039
  | 19 => ck5_6040
  | 20 => ck5_6041
  | 21 => ck5_6042
  | 22 => ck5_6043
  | 23 => ck5_6044
  | 24 => ck5_6045
  | 25 => ck5_6046
  | 26 => ck5_6047
  | n + 27 => absurd hk (by omega)
theorem ck5g_224 : ∀ k, k < 27 → bl5 (6048 + k) = true := fun k hk => match k with
  | 0 => ck5_6048
  | 1 => ck5_6049
  | 2 => ck5_6050
  | 3 => ck5_6051
  | 4 => ck5_6052
  | 5 => ck5_6053
  | 6 => ck5_6054
  | 7 => ck5_6055
  | 8 => ck5_6056
  | 9 => ck5_6057
  | 10 => ck5_6058
  | 11 => ck5_6059
  | 12 => ck5_6060
  | 13 => ck5_6061
  | 14 => ck5_6062
  | 15 => ck5_6063
  | 16 => ck5_6064
  | 17 => ck5_6065
  | 18 => ck5_6066
  | 19 => ck5_6067
  | 20 => ck5_6068
  | 21 => ck5_6069
  | 22 => ck5_6070
  | 23 => ck5_6071
  | 24 => ck5_6072
  | 25 => ck5_6073
  | 26 => ck5_6074
  | n + 27 => absurd hk (by omega)
theorem ck5g_225 : ∀ k, k < 27 → bl5 (6075 + k) = true := fun k hk => match k with
  | 0 => ck5_6075
  | 1 => ck5_6076
  | 2 => ck5_6077
  | 3 => ck5_6078
  | 4 => ck5_6079
  | 5 => ck5_6080
  | 6 => ck5_6081
  | 7 => ck5_6082
  | 8 => ck5_6083
  | 9 => ck5_6084
  | 10 => ck5_6085
  | 11 => ck5_6086
  | 12 => ck5_6087
  | 13 => ck5_6088
  | 14 => ck5_6089
  | 15 => ck5_6090
  | 16 => ck5_6091
  | 17 => ck5_6092
  | 18 => ck5_6093
  | 19 => ck5_6094
  | 20 => ck5_6095
  | 21 => ck5_6096
  | 22 => ck5_6097
  | 23 => ck5_6098
  | 24 => ck5_6099
  | 25 => ck5_6100
  | 26 => ck5_6101
  | n + 27 => absurd hk (by omega)
theorem ck5g_226 : ∀ k, k < 27 → bl5 (6102 + k) = true := fun k hk => match k with
  | 0 => ck5_6102
  | 1 => ck5_6103
  | 2 => ck5_6104
  | 3 => ck5_6105
  | 4 => ck5_6106
  | 5 => ck5_6107
  | 6 => ck5_6108
  | 7 => ck5_6109
  | 8 => ck5_6110
  | 9 => ck5_6111
  | 10 => ck5_6112
  | 11 => ck5_6113
  | 12 => ck5_6114
  | 13 => ck5_6115
  | 14 => ck5_6116
  | 15 => ck5_6117
  | 16 => ck5_6118
  | 17 => ck5_6119
  | 18 => ck5_6120
  | 19 => ck5_6121
  | 20 => ck5_6122
  | 21 => ck5_6123
  | 22 => ck5_6124
  | 23 => ck5_6125
  | 24 => ck5_6126
  | 25 => ck5_6127
  | 26 => ck5_6128
  | n + 27 => absurd hk (by omega)
theorem ck5g_227 : ∀ k, k < 27 → bl5 (6129 + k) = true := fun k hk => match k with
  | 0 => ck5_6129
  | 1 => ck5_6130
  | 2 => ck5_6131
  | 3 => ck5_6132
  | 4 => ck5_6133
  | 5 => ck5_6134
  | 6 => ck5_6135
  | 7 => ck5_6136
  | 8 => ck5_6137
  | 9 => ck5_6138
  | 10 => ck5_6139
  | 11 => ck5_6140
  | 12 => ck5_6141
  | 13 => ck5_6142
  | 14 => ck5_6143
  | 15 => ck5_6144
  | 16 => ck5_6145
  | 17 => ck5_6146
  | 18 => ck5_6147
  | 19 => ck5_6148
  | 20 => ck5_6149
  | 21 => ck5_6150
  | 22 => ck5_6151
  | 23 => ck5_6152
  | 24 => ck5_6153
  | 25 => ck5_6154
  | 26 => ck5_6155
  | n + 27 => absurd hk (by omega)
theorem ck5g_228 : ∀ k, k < 27 → bl5 (6156 + k) = true := fun k hk => match k with
  | 0 => ck5_6156
  | 1 => ck5_6157
  | 2 => ck5_6158
  | 3 => ck5_6159
  | 4 => ck5_6160
  | 5 => ck5_6161
  | 6 => ck5_6162
  | 7 => ck5_6163
  | 8 => ck5_6164
  | 9 => ck5_6165
  | 10 => ck5_6166
  | 11 => ck5_6167
  | 12 => ck5_6168
  | 13 => ck5_6169
  | 14 => ck5_6170
  | 15 => ck5_6171
  | 16 => ck5_6172
  | 17 => ck5_6173
  | 18 => ck5_6174
  | 19 => ck5_6175
  | 20 => ck5_6176
  | 21 => ck5_6177
  | 22 => ck5_6178
  | 23 => ck5_6179
  | 24 => ck5_6180
  | 25 => ck5_6181
  | 26 => ck5_6182
  | n + 27 => absurd hk (by omega)
theorem ck5g_229 : ∀ k, k < 27 → bl5 (6183 + k) = true := fun k hk => match k with
  | 0 => ck5_6183
  | 1 => ck5_6184
  | 2 => ck5_6185
  | 3 => ck5_6186
  | 4 => ck5_6187
  | 5 => ck5_6188
  | 6 => ck5_6189
  | 7 => ck5_6190
  | 8 => ck5_6191
  | 9 => ck5_6192
  | 10 => ck5_6193
  | 11 => ck5_6194
  | 12 => ck5_6195
  | 13 => ck5_6196
  | 14 => ck5_6197
  | 15 => ck5_6198
  | 16 => ck5_6199
  | 17 => ck5_6200
  | 18 => ck5_6201
  | 19 => ck5_6202
  | 20 => ck5_6203
  | 21 => ck5_6204
  | 22 => ck5_6205
  | 23 => ck5_6206
  | 24 => ck5_6207
  | 25 => ck5_6208
  | 26 => ck5_6209
  | n + 27 => absurd hk (by omega)
theorem ck5g_230 : ∀ k, k < 27 → bl5 (6210 + k) = true := fun k hk => match k with
  | 0 => ck5_6210
  | 1 => ck5_6211
  | 2 => ck5_6212
  | 3 => ck5_6213
  | 4 => ck5_6214
  | 5 => ck5_6215
  | 6 => ck5_6216
  | 7 => ck5_6217
  | 8 => ck5_6218
  | 9 => ck5_6219
  | 10 => ck5_6220
  | 11 => ck5_6221
  | 12 => ck5_6222
  | 13 => ck5_6223
  | 14 => ck5_6224
  | 15 => ck5_6225
  | 16 => ck5_6226
  | 17 => ck5_6227
  | 18 => ck5_6228
  | 19 => ck5_6229
  | 20 => ck5_6230
  | 21 => ck5_6231
  | 22 => ck5_6232
  | 23 => ck5_6233
  | 24 => ck5_6234
  | 25 => ck5_6235
  | 26 => ck5_6236
  | n + 27 => absurd hk (by omega)
theorem ck5g_231 : ∀ k, k < 27 → bl5 (6237 + k) = true := fun k hk => match k with
  | 0 => ck5_6237
  | 1 => ck5_6238
  | 2 => ck5_6239
  | 3 => ck5_6240
  | 4 => ck5_6241
  | 5 => ck5_6242
  | 6 => ck5_6243
  | 7 => ck5_6244
  | 8 => ck5_6245
  | 9 => ck5_6246
  | 10 => ck5_6247
  | 11 => ck5_6248
  | 12 => ck5_6249
  | 13 => ck5_6250
  | 14 => ck5_6251
  | 15 => ck5_6252
  | 16 => ck5_6253
  | 17 => ck5_6254
  | 18 => ck5_6255
  | 19 => ck5_6256
  | 20 => ck5_6257
  | 21 => ck5_6258
  | 22 => ck5_6259
  | 23 => ck5_6260
  | 24 => ck5_6261
  | 25 => ck5_6262
  | 26 => ck5_6263
  | n + 27 => absurd hk (by omega)
theorem ck5g_232 : ∀ k, k < 27 → bl5 (6264 + k) = true := fun k hk => match k with
  | 0 => ck5_6264
  | 1 => ck5_6265
  | 2 => ck5_6266
  | 3 => ck5_6267
  | 4 => ck5_6268
  | 5 => ck5_6269
  | 6 => ck5_6270
  | 7 => ck5_6271
  | 8 => ck5_6272
  | 9 => ck5_6273
  | 10 => ck5_6274
  | 11 => ck5_6275
  | 12 => ck5_6276
  | 13 => ck5_6277
  | 14 => ck5_6278
  | 15 => ck5_6279
  | 16 => ck5_6280
  | 17 => ck5_6281
  | 18 => ck5_6282
  | 19 => ck5_6283
  | 20 => ck5_6284
  | 21 => ck5_6285
  | 22 => ck5_6286
  | 23 => ck5_6287
  | 24 => ck5_6288
  | 25 => ck5_6289
  | 26 => ck5_6290
  | n + 27 => absurd hk (by omega)
theorem ck5g_233 : ∀ k, k < 27 → bl5 (6291 + k) = true := fun k hk => match k with
  | 0 => ck5_6291
  | 1 => ck5_6292
  | 2 => ck5_6293
  | 3 => ck5_6294
  | 4 => ck5_6295
  | 5 => ck5_6296
  | 6 => ck5_6297
  | 7 => ck5_6298
  | 8 => ck5_6299
  | 9 => ck5_6300
  | 10 => ck5_6301
  | 11 => ck5_6302
  | 12 => ck5_6303
  | 13 => ck5_6304
  | 14 => ck5_6305
  | 15 => ck5_6306
  | 16 => ck5_6307
  | 17 => ck5_6308
  | 18 => ck5_6309
  | 19 => ck5_6310
  | 20 => ck5_6311
  | 21 => ck5_6312
  | 22 => ck5_6313
  | 23 => ck5_6314
  | 24 => ck5_6315
  | 25 => ck5_6316
  | 26 => ck5_6317
  | n + 27 => absurd hk (by omega)
theorem ck5g_234 : ∀ k, k < 27 → bl5 (6318 + k) = true := fun k hk => match k with
  | 0 => ck5_6318
  | 1 => ck5_6319
  | 2 => ck5_6320
  | 3 => ck5_6321
  | 4 => ck5_6322
  | 5 => ck5_6323
  | 6 => ck5_6324
  | 7 => ck5_6325
  | 8 => ck5_6326
  | 9 => ck5_6327
  | 10 => ck5_6328
  | 11 => ck5_6329
  | 12 => ck5_6330
  | 13 => ck5_6331
  | 14 => ck5_6332
  | 15 => ck5_6333
  | 16 => ck5_6334
  | 17 => ck5_6335
  | 18 => ck5_6336
  | 19 => ck5_6337
  | 20 => ck5_6338
  | 21 => ck5_6339
  | 22 => ck5_6340
  | 23 => ck5_6341
  | 24 => ck5_6342
  | 25 => ck5_6343
  | 26 => ck5_6344
  | n + 27 => absurd hk (by omega)
theorem ck5g_235 : ∀ k, k < 27 → bl5 (6345 + k) = true := fun k hk => match k with
  | 0 => ck5_6345
  | 1 => ck5_6346
  | 2 => ck5_6347
  | 3 => ck5_6348
  | 4 => ck5_6349
  | 5 => ck5_6350
  | 6 => ck5_6351
  | 7 => ck5_6352
  | 8 => ck5_6353
  | 9 => ck5_6354
  | 10 => ck5_6355
  | 11 => ck5_6356
  | 12 => ck5_6357
  | 13 => ck5_6358
  | 14 => ck5_6359
  | 15 => ck5_6360
  | 16 => ck5_6361
  | 17 => ck5_6362
  | 18 => ck5_6363
  | 19 => ck5_6364
  | 20 => ck5_6365
  | 21 => ck5_6366
  | 22 => ck5_6367
  | 23 => ck5_6368
  | 24 => ck5_6369
  | 25 => ck5_6370
  | 26 => ck5_6371
  | n + 27 => absurd hk (by omega)
theorem ck5g_236 : ∀ k, k < 27 → bl5 (6372 + k) = true := fun k hk => match k with
  | 0 => ck5_6372
  | 1 => ck5_6373
  | 2 => ck5_6374
  | 3 => ck5_6375
  | 4 => ck5_6376
  | 5 => ck5_6377
  | 6 => ck5_6378
  | 7 => ck5_6379
  | 8 => ck5_6380
  | 9 => ck5_6381
  | 10 => ck5_6382
  | 11 => ck5_6383
  | 12 => ck5_6384
  | 13 => ck5_6385
  | 14 => ck5_6386
  | 15 => ck5_6387
  | 16 => ck5_6388
  | 17 => ck5_6389
  | 18 => ck5_6390
  | 19 => ck5_6391
  | 20 => ck5_6392
  | 21 => ck5_6393
  | 22 => ck5_6394
  | 23 => ck5_6395
  | 24 => ck5_6396
  | 25 => ck5_6397
  | 26 => ck5_6398
  | n + 27 => absurd hk (by omega)
theorem ck5g_237 : ∀ k, k < 27 → bl5 (6399 + k) = true := fun k hk => match k with
  | 0 => ck5_6399
  | 1 => ck5_6400
  | 2 => ck5_6401
  | 3 => ck5_6402
  | 4 => ck5_6403
  | 5 => ck5_6404
  | 6 => ck5_6405
  | 7 => ck5_6406
  | 8 => ck5_6407
  | 9 => ck5_6408
  | 10 => ck5_6409
  | 11 => ck5_6410
  | 12 => ck5_6411
  | 13 => ck5_6412
  | 14 => ck5_6413
  | 15 => ck5_6414
  | 16 => ck5_6415
  | 17 => ck5_6416
  | 18 => ck5_6417
  | 19 => ck5_6418
  | 20 => ck5_6419
  | 21 => ck5_6420
  | 22 => ck5_6421
  | 23 => ck5_6422
  | 24 => ck5_6423
  | 25 => ck5_6424
  | 26 => ck5_6425
  | n + 27 => absurd hk (by omega)
theorem ck5g_238 : ∀ k, k < 27 → bl5 (6426 + k) = true := fun k hk => match k with
  | 0 => ck5_6426
  | 1 => ck5_6427
  | 2 => ck5_6428
  | 3 => ck5_6429
  | 4 => ck5_6430
  | 5 => ck5_6431
  | 6 => ck5_6432
  | 7 => ck5_6433
  | 8 => ck5_6434
  | 9 => ck5_6435
  | 10 => ck5_6436
  | 11 => ck5_6437
  | 12 => ck5_6438
  | 13 => ck5_6439
  | 14 => ck5_6440
  | 15 => ck5_6441
  | 16 => ck5_6442
  | 17 => ck5_6443
  | 18 => ck5_6444
  | 19 => ck5_6445
  | 20 => ck5_6446
  | 21 => ck5_6447
  | 22 => ck5_6448
  | 23 => ck5_6449
  | 24 => ck5_6450
  | 25 => ck5_6451
  | 26 => ck5_6452
  | n + 27 => absurd hk (by omega)
theorem ck5g_239 : ∀ k, k < 27 → bl5 (6453 + k) = true := fun k hk => match k with
  | 0 => ck5_6453
  | 1 => ck5_6454
  | 2 => ck5_6455
  | 3 => ck5_6456
  | 4 => ck5_6457
  | 5 => ck5_6458
  | 6 => ck5_6459
  | 7 => ck5_6460
  | 8 => ck5_6461
  | 9 => ck5_6462
  | 10 => ck5_6463
  | 11 => ck5_6464
  | 12 => ck5_6465
  | 13 => ck5_6466
  | 14 => ck5_6467
  | 15 => ck5_6468
  | 16 => ck5_6469
  | 17 => ck5_6470
  | 18 => ck5_6471
  | 19 => ck5_6472
  | 20 => ck5_6473
  | 21 => ck5_6474
  | 22 => ck5_6475
  | 23 => ck5_6476
  | 24 => ck5_6477
  | 25 => ck5_6478
  | 26 => ck5_6479
  | n + 27 => absurd hk (by omega)
theorem ck5g_240 : ∀ k, k < 27 → bl5 (6480 + k) = true := fun k hk => match k with
  | 0 => ck5_6480
  | 1 => ck5_6481
  | 2 => ck5_6482
  | 3 => ck5_6483
  | 4 => ck5_6484
  | 5 => ck5_6485
  | 6 => ck5_6486
  | 7 => ck5_6487
  | 8 => ck5_6488
  | 9 => ck5_6489
  | 10 => ck5_6490
  | 11 => ck5_6491
  | 12 => ck5_6492
  | 13 => ck5_6493
  | 14 => ck5_6494
  | 15 => ck5_6495
  | 16 => ck5_6496
  | 17 => ck5_6497
  | 18 => ck5_6498
  | 19 => ck5_6499
  | 20 => ck5_6500
  | 21 => ck5_6501
  | 22 => ck5_6502
  | 23 => ck5_6503
  | 24 => ck5_6504
  | 25 => ck5_6505
  | 26 => ck5_6506
  | n + 27 => absurd hk (by omega)
theorem ck5g_241 : ∀ k, k < 27 → bl5 (6507 + k) = true := fun k hk => match k with
  | 0 => ck5_6507
  | 1 => ck5_6508
  | 2 => ck5_6509
  | 3 => ck5_6510
  | 4 => ck5_6511
  | 5 => ck5_6512
  | 6 => ck5_6513
  | 7 => ck5_6514
  | 8 => ck5_6515
  | 9 => ck5_6516
  | 10 => ck5_6517
  | 11 => ck5_6518
  | 12 => ck5_6519
  | 13 => ck5_6520
  | 14 => ck5_6521
  | 15 => ck5_6522
  | 16 => ck5_6523
  | 17 => ck5_6524
  | 18 => ck5_6525
  | 19 => ck5_6526
  | 20 => ck5_6527
  | 21 => ck5_6528
  | 22 => ck5_6529
  | 23 => ck5_6530
  | 24 => ck5_6531
  | 25 => ck5_6532
  | 26 => ck5_6533
  | n + 27 => absurd hk (by omega)
theorem ck5g_242 : ∀ k, k < 27 → bl5 (6534 + k) = true := fun k hk => match k with
  | 0 => ck5_6534
  | 1 => ck5_6535
  | 2 => ck5_6536
  | 3 => ck5_6537
  | 4 => ck5_6538
  | 5 => ck5_6539
  | 6 => ck5_6540
  | 7 => ck5_6541
  | 8 => ck5_6542
  | 9 => ck5_6543
  | 10 => ck5_6544
  | 11 => ck5_6545
  | 12 => ck5_6546
  | 13 => ck5_6547
  | 14 => ck5_6548
  | 15 => ck5_6549
  | 16 => ck5_6550
  | 17 => ck5_6551
  | 18 => ck5_6552
  | 19 => ck5_6553
  | 20 => ck5_6554
  | 21 => ck5_6555
  | 22 => ck5_6556
  | 23 => ck5_6557
  | 24 => ck5_6558
  | 25 => ck5_6559
  | 26 => ck5_6560
  | n + 27 => absurd hk (by omega)
